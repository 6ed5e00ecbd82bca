theorem sm64 : ∀ k, k < 64 → (((nI k).toInt64 &&& 63).toBitVec.smod 64).toNat = k := by decide +kernel
theorem lsh {a d : Nat} (hd : d < 64) (h : a < 2 ^ 63) : lN a >>> ((nI d).toInt64 &&& 63) = lN (a / 2 ^ d) := by
  have hq : a / 2 ^ d ≤ a := Nat.div_le_self _ _
  apply Int64.toInt_inj.mp
  have e : (lN a >>> ((nI d).toInt64 &&& 63)).toInt = (lN a).toInt >>> d := by
    have h1 := sm64 d hd
    generalize ((nI d).toInt64 &&& 63) = D at h1 ⊢
    rw [← h1]
    exact BitVec.toInt_sshiftRight ..
  rw [e, Int.shiftRight_eq_div_pow, pk_lT h, pk_lT (by omega)]
  rfl
theorem up_up (f : Nat → Int32) (k : Nat) (x y : Int32) : upd (upd f k x) k y = upd f k y := by
  funext j
  by_cases h : j = k
  · subst h; rw [up_s, up_s]
  · rw [up_n _ _ h, up_n _ _ h, up_n _ _ h]
theorem up_id (f : Nat → Int32) (k : Nat) (x : Int32) (h : f k = x) : upd f k x = f := by
  funext j
  by_cases z : j = k
  · subst z; rw [up_s, h]
  · rw [up_n _ _ z]
def ofs (m : Nat → Nat) : Nat → Nat
  | 0 => 0
  | f + 1 => ofs m f + m f
theorem ofs_mono {m : Nat → Nat} {a b : Nat} (h : a ≤ b) : ofs m a ≤ ofs m b := by
  induction h with
  | refl => exact Nat.le_refl _
  | step _ ih => rw [ofs]; omega
def pkw (V m : Nat → Nat) : Nat → Nat → Gf
  | 0, _ => 0#6
  | f + 1, s => if s < ofs m f then pkw V m f s else BitVec.ofNat 6 (V f / 2 ^ (6 * (m f - 1 - (s - ofs m f))))
theorem pkw_lo {V m : Nat → Nat} {f s : Nat} (h : s < ofs m f) : pkw V m (f + 1) s = pkw V m f s := if_pos h
theorem pkw_at {V m : Nat → Nat} {f j : Nat} : pkw V m (f + 1) (ofs m f + j) = BitVec.ofNat 6 (V f / 2 ^ (6 * (m f - 1 - j))) := by
  rw [pkw, if_neg (by omega), Nat.add_sub_cancel_left]
theorem Gi_of (x : Nat) : Gi (BitVec.ofNat 6 x) = nI (x % 64) := by rw [Gi, BitVec.toNat_ofNat]
theorem Rp.more {n : Nat} {f : Nat → Int32} {w : Nat → Gf} (h : Rp n f w) {x : Int32} (hx : x = Gi (w n)) : Rp (n + 1) (upd f n x) w := by
  intro i hi
  by_cases z : i = n
  · subst z; rw [up_s, hx]
  · rw [up_n _ _ z]; exact h i (by omega)
theorem m6 (x : Nat) : (nI x) &&& (63 : Int32) = nI (x % 64) := by
  rw [pk_and (nI x) 6 (by decide)]
  congr 1
  show (BitVec.ofNat 32 x).toNat % 64 = x % 64
  rw [BitVec.toNat_ofNat]
  exact Nat.mod_mod_of_dvd x (by decide)
theorem sub_m (x : Int32) : x + (-6) = x - 6 := by rw [Int32.sub_eq_add_neg]
theorem sub_1 (x : Int32) : x + (-1) = x - 1 := by rw [Int32.sub_eq_add_neg]
/-- the class's way -/
theorem f_put {F k N : Nat} {fv : Nat → Int64} {fw fwd : Nat → Int32} {V m : Nat → Nat} (hv : ∀ f, f < F → fv f = lN (V f) ∧ V f < 2 ^ 63) (hwd : ∀ f, f < F → fwd f = nI (6 * m f)) (hm : ∀ f, f < F → m f ≤ 6) (hF : F ≤ 4) (hk : ofs m F = k) (hN : k ≤ N) (hb : N < 1000) :
    ∃ fw', im_X2_putFields F N F fv fw fwd = some fw' ∧ Rp k fw' (pkw V m F) := by
  obtain ⟨s, ⟨h1, h2⟩, e⟩ := lp_up (fun q f (s : Int32 × (Nat → Int32)) => im_X2_putFields_L5 F fwd F fv N q s.1 f s.2) (fun s => some s.2) F
    (fun f s => s.1 = nI (ofs m f) ∧ Rp (ofs m f) s.2 (pkw V m f))
    (fun q s _ => by
      show im_X2_putFields_L5 F fwd F fv N (q + 1) s.1 (nI F) s.2 = _
      rw [im_X2_putFields_L5, if_pos (nI_le (Nat.le_refl _) (by omega))])
    (fun q f s hf hs => by
      obtain ⟨h1, h2⟩ := hs
      have hmo := ofs_mono (m := m) (show f + 1 ≤ F from hf)
      rw [ofs] at hmo
      have hm6 := hm f hf
      have key : ∀ (d j q : Nat) (row : Nat → Int32), j + d = m f → d < q → Rp (ofs m f + j) row (pkw V m (f + 1)) → ∃ row', Rp (ofs m f + m f) row' (pkw V m (f + 1)) ∧ ∀ K, im_X2_putFields_L27 K F fv (nI f) N q (nI (ofs m f + j)) (nI (6 * d) - 6) row = K (nI (ofs m f + m f)) row' := by
        intro d
        induction d with
        | zero =>
          intro j q row hj hq hr
          obtain ⟨g, rfl⟩ : ∃ g, q = g + 1 := ⟨q - 1, by omega⟩
          rw [show j = m f by omega] at hr ⊢
          refine ⟨row, hr, fun K => ?_⟩
          rw [im_X2_putFields_L27, if_pos (by decide)]
        | succ d ih =>
          intro j q row hj hq hr
          obtain ⟨g, rfl⟩ : ∃ g, q = g + 1 := ⟨q - 1, by omega⟩
          obtain ⟨row', r1, r2⟩ := ih (j + 1) g (upd row (ofs m f + j) (nI (V f / 2 ^ (6 * d) % 64))) (by omega) (by omega) (hr.more (by rw [pkw_at, Gi_of, show m f - 1 - j = d by omega]))
          refine ⟨row', r1, fun K => ?_⟩
          have h6 : nI (6 * (d + 1)) - 6 = nI (6 * d) := by rw [show (6 : Int32) = nI 6 from rfl, pk_sub (by omega)]; congr 1
          rw [im_X2_putFields_L27, h6, if_neg (nI_pos (by omega)), ev_ld hf (by omega), (hv f hf).1]
          simp only [ev_lt]
          rw [lsh (by omega) (hv f hf).2, lN_i, m6, ev_st (by omega) (by omega), nI_1, sub_m]
          exact r2 K
      obtain ⟨row', r1, r2⟩ := key (m f) 0 5000 s.2 (by omega) (by omega) (fun i hi => by rw [pkw_lo hi]; exact h2 i hi)
      refine ⟨(nI (ofs m (f + 1)), row'), ⟨rfl, r1⟩, ?_⟩
      show im_X2_putFields_L5 F fwd F fv N (q + 1) s.1 (nI f) s.2 = im_X2_putFields_L5 F fwd F fv N q (nI (ofs m f + m f)) (nI (f + 1)) row'
      rw [im_X2_putFields_L5, if_neg (nI_ge hf (by omega)), ev_ld hf (by omega), hwd f hf, ev_lt, ev_j2, h1]
      refine (r2 _).trans ?_
      rw [ev_lt, nI_1]) F 0 (0, fw) 5000 (by omega) (by omega) ⟨rfl, fun i hi => by simp [ofs] at hi⟩
  refine ⟨s.2, ?_, by rw [← hk]; exact h2⟩
  rw [im_X2_putFields]
  exact e
/-- the reference's way: six bits -/
theorem g_six {f s d V : Nat} {fv : Nat → Int64} {row : Nat → Int32} (hf : f < 4) (hs : s < 22) (hd : 6 * d + 6 ≤ 60) (hv : fv f = lN V) (hV : V < 2 ^ 63) (hz : row s = 0) (K : Int32 → (Nat → Int32) → Option ((Nat → Int32) × (Nat → Int32))) (q : Nat) :
    ∀ u, u ≤ 6 → im_X5_pack_L68 K 22 4 fv (nI f) (q + 6) (nI (6 * s)) (nI (6 * d + 6) - 1) row = im_X5_pack_L68 K 22 4 fv (nI f) (q + (6 - u)) (nI (6 * s + u)) (nI (6 * d + (6 - u)) - 1) (upd row s (nI (V / 2 ^ (6 * d + 6 - u) % 2 ^ u))) := by
  intro u
  induction u with
  | zero =>
    intro _
    rw [Nat.pow_zero, Nat.mod_one, nI_0, up_id _ _ _ hz]
    rfl
  | succ u ih =>
    intro hu
    rw [ih (by omega)]
    obtain ⟨e, he⟩ : ∃ e, 6 * d + (6 - u) = e + 1 := ⟨6 * d + 5 - u, by omega⟩
    have hexp : 6 * d + 6 - u = e + 1 := by omega
    have hexp2 : 6 * d + 6 - (u + 1) = e := by omega
    have hexp3 : 6 * d + (6 - (u + 1)) = e := by omega
    rw [show q + (6 - u) = q + (6 - (u + 1)) + 1 by omega, he, hexp, hexp2, hexp3]
    rw [im_X5_pack_L68, show nI (e + 1) - 1 = nI e from nI_pred e, if_neg (nI_pos (by omega))]
    simp only [ev_lt]
    rw [show (6 : Int32) = nI 6 from rfl, pk_div (by omega) (by omega) (by omega), show (6 * s + u) / 6 = s by omega, ev_ld hs (by omega), up_s, ev_ld hf (by omega), hv, lsh (by omega) hV]
    have hbit : (lN (V / 2 ^ e) &&& 1).toInt32 = nI (V / 2 ^ e % 2) := by
      apply Int32.toBitVec_inj.mp
      apply BitVec.eq_of_getLsbD_eq
      intro i hi
      show ((BitVec.ofNat 64 (V / 2 ^ e) &&& 1#64).signExtend 32).getLsbD i = (BitVec.ofNat 32 (V / 2 ^ e % 2)).getLsbD i
      rw [BitVec.getLsbD_signExtend, BitVec.getLsbD_and, BitVec.getLsbD_ofNat, BitVec.getLsbD_ofNat, BitVec.getLsbD_ofNat, if_pos (by omega)]
      cases i with
      | zero => simp [Nat.testBit_zero]
      | succ i => simp [Nat.testBit_succ, show V / 2 ^ e % 2 / 2 = 0 by omega]
    rw [hbit, show (2 : Int32) = nI 2 from rfl, pk_mul, nI_add, ev_st hs (by omega), up_up, nI_1, sub_1, Nat.add_assoc]
    congr 3
    rw [Nat.pow_succ 2 e, ← Nat.div_div_eq_div_mul, Nat.pow_succ 2 u, Nat.mul_comm (2 ^ u) 2, Nat.mod_mul]
    omega
theorem g_pack {F k n R : Nat} {fv : Nat → Int64} {fg fw fb : Nat → Int32} {V m : Nat → Nat} (hv : ∀ f, f < F → fv f = lN (V f) ∧ V f < 2 ^ 63) (hwd : ∀ f, f < F → fb f = nI (6 * m f)) (hm : ∀ f, f < F → m f ≤ 6) (hF : F ≤ 4) (hk : ofs m F = k) (hkn : k + R = n) (hn : n ≤ 22) :
    ∃ fg' fw', im_X5_pack (nI F) (nI R) (nI n) 4 22 4 22 fb fg fv fw = some (fg', fw') ∧ Lp n fg' (fun i => decide (k ≤ i)) ∧ Rp n fw' (fun i => if i < k then pkw V m F i else 0#6) := by
  obtain ⟨a, ⟨a1, a2⟩, ea⟩ := lp_up (fun q i (s : (Nat → Int32) × (Nat → Int32)) => fun K => im_X5_pack_L2 (nI n) K 22 22 (nI R) q i s.1 s.2) (fun s => fun K => K s.1 s.2) n
    (fun i s => Lp i s.1 (fun i => decide (k ≤ i)) ∧ ∀ j, j < i → s.2 j = 0)
    (fun q s _ => by
      funext K
      rw [im_X5_pack_L2, if_pos (nI_le (Nat.le_refl _) (by omega))])
    (fun q i s hi hs => by
      refine ⟨(upd s.1 i (if k ≤ i then 1 else 0), upd s.2 i 0), ⟨fun j hj => ?_, fun j hj => ?_⟩, ?_⟩
      · by_cases z : j = i
        · subst z; show upd s.1 j _ j = _; rw [up_s]; by_cases y : k ≤ j <;> simp [y]
        · show upd s.1 i _ j = _; rw [up_n _ _ z]; exact hs.1 j (by omega)
      · by_cases z : j = i
        · subst z; show upd s.2 j _ j = _; rw [up_s]
        · show upd s.2 i _ j = _; rw [up_n _ _ z]; exact hs.2 j (by omega)
      · funext K
        rw [im_X5_pack_L2, if_neg (nI_ge hi (by omega)), ev_j3, ev_st (by omega) (by omega), ev_lt, pk_sub (by omega), show n - R = k by omega]
        by_cases z : k ≤ i
        · rw [if_neg (nI_nlt z (by omega))]; show im_as _ _ = _; rw [ev_as (Or.inr rfl), ev_st (by omega) (by omega), ev_lt, nI_1, if_pos z]
        · rw [if_pos (nI_lt (by omega) (by omega))]; show im_as _ _ = _; rw [ev_as (Or.inl rfl), ev_st (by omega) (by omega), ev_lt, nI_1, if_neg z]) n 0 (fg, fw) 5000 (by omega) (by omega) ⟨fun j hj => by omega, fun j hj => by omega⟩
  obtain ⟨s, ⟨h1, h2, h3⟩, e⟩ := lp_up (fun q f (s : Int32 × (Nat → Int32)) => im_X5_pack_L51 (nI F) a.1 4 fb 22 4 fv q s.1 f s.2) (fun s => some (a.1, s.2)) F
    (fun f s => s.1 = nI (6 * ofs m f) ∧ Rp (ofs m f) s.2 (pkw V m f) ∧ ∀ i, ofs m f ≤ i → i < n → s.2 i = 0)
    (fun q s _ => by
      show im_X5_pack_L51 (nI F) a.1 4 fb 22 4 fv (q + 1) s.1 (nI F) s.2 = _
      rw [im_X5_pack_L51, if_pos (nI_le (Nat.le_refl _) (by omega))])
    (fun q f s hf hs => by
      obtain ⟨h1, h2, h3⟩ := hs
      have hmo := ofs_mono (m := m) (show f + 1 ≤ F from hf)
      rw [ofs] at hmo
      have hm6 := hm f hf
      have key : ∀ (d j q : Nat) (row : Nat → Int32), j + d = m f → 6 * d < q → Rp (ofs m f + j) row (pkw V m (f + 1)) → (∀ i, ofs m f + j ≤ i → i < n → row i = 0) → ∃ row', Rp (ofs m f + m f) row' (pkw V m (f + 1)) ∧ (∀ i, ofs m f + m f ≤ i → i < n → row' i = 0) ∧ ∀ K, im_X5_pack_L68 K 22 4 fv (nI f) q (nI (6 * (ofs m f + j))) (nI (6 * d) - 1) row = K (nI (6 * (ofs m f + m f))) row' := by
        intro d
        induction d with
        | zero =>
          intro j q row hj hq hr hz
          obtain ⟨g, rfl⟩ : ∃ g, q = g + 1 := ⟨q - 1, by omega⟩
          rw [show j = m f by omega] at hr hz ⊢
          refine ⟨row, hr, hz, fun K => ?_⟩
          rw [im_X5_pack_L68, if_pos (by decide)]
        | succ d ih =>
          intro j q row hj hq hr hz
          obtain ⟨g, rfl⟩ : ∃ g, q = g + 6 := ⟨q - 6, by omega⟩
          obtain ⟨row', r1, r2, r3⟩ := ih (j + 1) g (upd row (ofs m f + j) (nI (V f / 2 ^ (6 * d) % 64))) (by omega) (by omega) (hr.more (by rw [pkw_at, Gi_of, show m f - 1 - j = d by omega])) (fun i i1 i2 => by rw [up_n _ _ (by omega)]; exact hz i (by omega) i2)
          refine ⟨row', r1, r2, fun K => ?_⟩
          rw [show 6 * (d + 1) = 6 * d + 6 by omega, g_six (V := V f) (s := ofs m f + j) (by omega) (by omega) (by omega) (hv f hf).1 (hv f hf).2 (hz _ (by omega) (by omega)) K g 6 (by omega)]
          rw [show 6 * d + 6 - 6 = 6 * d by omega, show 6 * d + (6 - 6) = 6 * d by omega, show g + (6 - 6) = g by omega, show 6 * (ofs m f + j) + 6 = 6 * (ofs m f + (j + 1)) by omega]
          exact r3 K
      obtain ⟨row', r1, r2, r3⟩ := key (m f) 0 5000 s.2 (by omega) (by omega) (fun i hi => by rw [pkw_lo hi]; exact h2 i hi) h3
      refine ⟨(nI (6 * ofs m (f + 1)), row'), ⟨rfl, r1, r2⟩, ?_⟩
      show im_X5_pack_L51 (nI F) a.1 4 fb 22 4 fv (q + 1) s.1 (nI f) s.2 = im_X5_pack_L51 (nI F) a.1 4 fb 22 4 fv q (nI (6 * (ofs m f + m f))) (nI (f + 1)) row'
      rw [im_X5_pack_L51, if_neg (nI_ge hf (by omega)), ev_ld (by omega) (by omega), hwd f hf, ev_lt, ev_j2, h1]
      refine (r3 _).trans ?_
      rw [ev_lt, nI_1]) F 0 (0, a.2) 5000 (by omega) (by omega) ⟨rfl, fun i hi => by simp [ofs] at hi, fun i _ hi => a2 i hi⟩
  rw [hk] at h2 h3
  refine ⟨a.1, s.2, ?_, a1, fun i hi => ?_⟩
  · rw [im_X5_pack, ev_j2]
    exact (congrFun ea _).trans e
  · by_cases z : i < k
    · show s.2 i = Gi (if i < k then _ else _); rw [if_pos z]; exact h2 i z
    · show s.2 i = Gi (if i < k then _ else _); rw [if_neg z]; exact (h3 i (by omega) hi).trans Gi_0.symm
