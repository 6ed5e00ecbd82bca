theorem u_tn {n : Nat} (h : n < 2 ^ 64) : (UInt64.ofNat n).toNat = n := Nat.mod_eq_of_lt h
theorem g_or {k p a b : Nat} (hp : 2 ^ k = p) (ha : a < p) (h : b * p + a < 2 ^ 64) : lN (b * p) ||| lN a = lN (b * p + a) := by
  subst hp
  have h1 : b * 2 ^ k ||| a = b * 2 ^ k + a := by rw [← Nat.shiftLeft_eq, Nat.shiftLeft_add_eq_or_of_lt ha]
  have h3 : UInt64.ofNat (b * 2 ^ k) ||| UInt64.ofNat a = UInt64.ofNat (b * 2 ^ k + a) := UInt64.toNat_inj.mp (by rw [UInt64.toNat_or, u_tn (by omega), u_tn (by omega), u_tn h, h1])
  have h2 := congrArg UInt64.toInt64 h3
  exact h2
theorem g_shl {a k p : Nat} {y : Int64} (hy : y.toBitVec.smod 64 = BitVec.ofNat 64 k) (hk : k < 64) (hp : 2 ^ k = p) (ha : a < 2 ^ 64) : lN a <<< y = lN (a * p) := by
  subst hp
  apply Int64.toBitVec_inj.mp
  rw [Int64.toBitVec_shiftLeft, hy]
  apply BitVec.eq_of_toNat_eq
  have hb : (lN a).toBitVec.toNat = a := Nat.mod_eq_of_lt ha
  have hk' : (BitVec.ofNat 64 k).toNat = k := Nat.mod_eq_of_lt (by omega)
  have h : ((lN a).toBitVec <<< BitVec.ofNat 64 k).toNat = (a * 2 ^ k) % 2 ^ 64 := by simp only [BitVec.shiftLeft_eq', BitVec.toNat_shiftLeft, hb, hk', Nat.shiftLeft_eq]
  exact h
theorem or6 {T a : Nat} (hT : T < 2 ^ 57) (ha : a < 64) : (lN T <<< ((6 : Int32).toInt64 &&& 63)) ||| (nI a).toInt64 = lN (T * 64 + a) := by
  rw [g_shl (k := 6) (p := 64) (by decide) (by omega) (by decide) (by omega), nI_l (by omega), g_or (k := 6) (p := 64) (by decide) ha (by omega)]
def tvn (w : Nat → Gf) (o : Nat) : Nat → Nat
  | 0 => 0
  | j + 1 => tvn w o j * 64 + (w (o + j)).toNat
theorem tvn_lt (w : Nat → Gf) (o : Nat) : ∀ j, tvn w o j < 64 ^ j := by
  intro j
  induction j with
  | zero => exact Nat.zero_lt_one
  | succ j ih =>
    have := Gi_lt (w (o + j))
    rw [tvn, Nat.pow_succ]
    omega
theorem tvn_b {w : Nat → Gf} {o j : Nat} (h : j ≤ 6) : tvn w o j < 2 ^ 36 := by
  have h1 := tvn_lt w o j
  have h2 : 64 ^ j ≤ 64 ^ 6 := Nat.pow_le_pow_right (by omega) h
  omega
def Tv (F : Nat) (m : Nat → Nat) (w : Nat → Gf) (f : Nat → Int64) : Prop := ∀ i, i < F → f i = lN (tvn w (ofs m i) (m i))
theorem f_takeF {F k n : Nat} {ft : Nat → Int64} {fw fwd : Nat → Int32} {w : Nat → Gf} {m : Nat → Nat} (hw : Rp n fw w) (hwd : ∀ f, f < F → fwd f = nI (6 * m f)) (hm : ∀ f, f < F → m f ≤ 6) (hF : F ≤ 4) (hk : ofs m F = k) (hkn : k ≤ n) (hn : n ≤ 22) :
    ∃ ft', im_X2_takeFields n F F fw ft fwd = some ft' ∧ Tv F m w ft' := by
  obtain ⟨s, ⟨h1, h2⟩, e⟩ := lp_up (fun q f (s : Int32 × (Nat → Int64)) => im_X2_takeFields_L5 F F fwd n fw q s.1 f s.2) (fun s => some s.2) F
    (fun f s => s.1 = nI (ofs m f) ∧ ∀ i, i < f → s.2 i = lN (tvn w (ofs m i) (m i)))
    (fun q s _ => by
      show im_X2_takeFields_L5 F F fwd n fw (q + 1) s.1 (nI F) s.2 = _
      rw [im_X2_takeFields_L5, if_pos (nI_le (Nat.le_refl _) (by omega))])
    (fun q f s hf hs => by
      obtain ⟨h1, h2⟩ := hs
      have hmo := ofs_mono (m := m) (show f + 1 ≤ F from hf)
      rw [ofs] at hmo
      have hm6 := hm f hf
      have key : ∀ (d j q : Nat), j + d = m f → d < q → ∀ K, im_X2_takeFields_L21 F fwd (nI f) K n fw q (nI (ofs m f + j)) (lN (tvn w (ofs m f) j)) (nI (6 * j)) = K (nI (ofs m f + m f)) (lN (tvn w (ofs m f) (m f))) := by
        intro d
        induction d with
        | zero =>
          intro j q hj hq K
          obtain ⟨g, rfl⟩ : ∃ g, q = g + 1 := ⟨q - 1, by omega⟩
          rw [show j = m f by omega, im_X2_takeFields_L21, ev_ld hf (by omega), hwd f hf, if_pos (nI_le (Nat.le_refl _) (by omega))]
        | succ d ih =>
          intro j q hj hq K
          obtain ⟨g, rfl⟩ : ∃ g, q = g + 1 := ⟨q - 1, by omega⟩
          have hb := tvn_b (w := w) (o := ofs m f) (j := j) (by omega)
          rw [im_X2_takeFields_L21, ev_ld hf (by omega), hwd f hf, if_neg (nI_ge (by omega) (by omega))]
          simp only [ev_lt]
          rw [ev_ld (by omega) (by omega), hw _ (by omega), Gi, or6 (by omega) (Gi_lt _), nI_1, show (6 : Int32) = nI 6 from rfl, nI_add]
          exact ih (j + 1) g (by omega) (by omega) K
      refine ⟨(nI (ofs m (f + 1)), vp_updL s.2 f (lN (tvn w (ofs m f) (m f)))), ⟨rfl, fun i hi => ?_⟩, ?_⟩
      · show vp_updL s.2 f _ i = _
        by_cases z : i = f
        · subst z; rw [pk_uLs]
        · rw [pk_uLn z]; exact h2 i (by omega)
      · show im_X2_takeFields_L5 F F fwd n fw (q + 1) s.1 (nI f) s.2 = im_X2_takeFields_L5 F F fwd n fw q (nI (ofs m f + m f)) (nI (f + 1)) (vp_updL s.2 f (lN (tvn w (ofs m f) (m f))))
        rw [im_X2_takeFields_L5, if_neg (nI_ge hf (by omega)), ev_j2, h1]
        refine (key (m f) 0 5000 (by omega) (by omega) _).trans ?_
        rw [ev_stL hf (by omega), ev_lt, nI_1]) F 0 (0, ft) 5000 (by omega) (by omega) ⟨rfl, fun i hi => by omega⟩
  refine ⟨s.2, ?_, h2⟩
  rw [im_X2_takeFields]
  exact e
theorem uL_up (f : Nat → Int64) (k : Nat) (x y : Int64) : vp_updL (vp_updL f k x) k y = vp_updL f k y := by
  funext j
  by_cases h : j = k
  · subst h; rw [pk_uLs, pk_uLs]
  · rw [pk_uLn h, pk_uLn h, pk_uLn h]
theorem uL_id (f : Nat → Int64) (k : Nat) (x : Int64) (h : f k = x) : vp_updL f k x = f := by
  funext j
  by_cases z : j = k
  · subst z; rw [pk_uLs, h]
  · rw [pk_uLn z]
theorem bit_of : ∀ x : Fin 64, ∀ u : Fin 6, (nI x >>> ((5 - nI u) &&& 31)) &&& 1 = nI (x / 2 ^ (5 - u.val) % 2) := by decide +kernel
theorem g_wbit {n s u : Nat} {fw : Nat → Int32} {w : Nat → Gf} (hw : Rp n fw w) (hn : n ≤ 22) (hs : s < n) (hu : u < 6) : im_X5_wordBit (nI (6 * s + u)) 22 fw = some (nI ((w s).toNat / 2 ^ (5 - u) % 2)) := by
  rw [im_X5_wordBit]
  simp only [ev_lt]
  rw [show (6 : Int32) = nI 6 from rfl, pk_rem (by omega) (by omega) (by omega), pk_div (by omega) (by omega) (by omega), show (6 * s + u) / 6 = s by omega, show (6 * s + u) % 6 = u by omega, ev_ld (by omega) (by omega), hw s hs, Gi]
  exact congrArg some (bit_of (w s).toFin ⟨u, hu⟩)
theorem g_six2 {n f s T : Nat} {fb fw : Nat → Int32} {w : Nat → Gf} {ft : Nat → Int64} {mf j : Nat} (hw : Rp n fw w) (hn : n ≤ 22) (hf : f < 4) (hs : s < n) (hb : fb f = nI (6 * mf)) (hj : j < mf) (hm : mf ≤ 6) (hT : ft f = lN T) (hT2 : T < 2 ^ 50) {β : Type} (K : Int32 → (Nat → Int64) → Option _) (q : Nat) :
    ∀ u, u ≤ 6 → im_X5_parse_L152 4 fb (nI f) K 4 22 fw (q + 6) (nI (6 * s)) (nI (6 * j)) ft = im_X5_parse_L152 4 fb (nI f) K 4 22 fw (q + (6 - u)) (nI (6 * s + u)) (nI (6 * j + u)) (vp_updL ft f (lN (T * 2 ^ u + (w s).toNat / 2 ^ (6 - u)))) := by
  have hx := Gi_lt (w s)
  intro u
  induction u with
  | zero =>
    intro _
    rw [show T * 2 ^ 0 + (w s).toNat / 2 ^ (6 - 0) = T by rw [Nat.div_eq_of_lt hx]; omega, uL_id _ _ _ hT]
    rfl
  | succ u ih =>
    intro hu
    rw [ih (by omega), show q + (6 - u) = q + (6 - (u + 1)) + 1 by omega, im_X5_parse_L152, ev_ld hf (by omega), hb, if_neg (nI_ge (by omega) (by omega)), ev_ld hf (by omega), pk_uLs]
    simp only [ev_lt]
    rw [g_wbit hw hn hs (by omega), ev_b1, nI_l (by omega), show (2 : Int64) = lN 2 from rfl, lN_mul, lN_add, ev_stL hf (by omega), uL_up, nI_1, nI_1]
    have he : (w s).toNat / 2 ^ (6 - u) = (w s).toNat / 2 ^ (5 - u) / 2 := by
      rw [show 6 - u = (5 - u) + 1 by omega, Nat.pow_succ, Nat.div_div_eq_div_mul]
    have hv : 2 * (T * 2 ^ u + (w s).toNat / 2 ^ (6 - u)) + (w s).toNat / 2 ^ (5 - u) % 2 = T * 2 ^ (u + 1) + (w s).toNat / 2 ^ (6 - (u + 1)) := by
      rw [he, show 6 - (u + 1) = 5 - u by omega, Nat.pow_succ, ← Nat.mul_assoc]
      omega
    rw [hv]
    rfl
theorem g_takeF {F k n : Nat} {ft : Nat → Int64} {fw fb : Nat → Int32} {w : Nat → Gf} {m : Nat → Nat} (hw : Rp n fw w) (hwd : ∀ f, f < F → fb f = nI (6 * m f)) (hm : ∀ f, f < F → m f ≤ 6) (hF : F ≤ 4) (hk : ofs m F = k) (hkn : k ≤ n) (hn : n ≤ 22) :
    ∃ ft', (∀ K, im_X5_parse_L132 (nI F) K 4 4 fb 22 fw 5000 0 0 ft = K ft') ∧ Tv F m w ft' := by
  obtain ⟨s, ⟨h1, h2⟩, e⟩ := lp_up (fun q f (s : Int32 × (Nat → Int64)) => fun K => im_X5_parse_L132 (nI F) K 4 4 fb 22 fw q s.1 f s.2) (fun s => fun K => K s.2) F
    (fun f s => s.1 = nI (6 * ofs m f) ∧ ∀ i, i < f → s.2 i = lN (tvn w (ofs m i) (m i)))
    (fun q s _ => by
      funext K
      rw [im_X5_parse_L132, if_pos (nI_le (Nat.le_refl _) (by omega))])
    (fun q f s hf hs => by
      obtain ⟨h1, h2⟩ := hs
      have hmo := ofs_mono (m := m) (show f + 1 ≤ F from hf)
      rw [ofs] at hmo
      have hm6 := hm f hf
      have key : ∀ (d j q : Nat) (ft : Nat → Int64), j + d = m f → 6 * d < q → ft f = lN (tvn w (ofs m f) j) → ∀ K, im_X5_parse_L152 4 fb (nI f) K 4 22 fw q (nI (6 * (ofs m f + j))) (nI (6 * j)) ft = K (nI (6 * (ofs m f + m f))) (vp_updL ft f (lN (tvn w (ofs m f) (m f)))) := by
        intro d
        induction d with
        | zero =>
          intro j q ft hj hq ht K
          obtain ⟨g, rfl⟩ : ∃ g, q = g + 1 := ⟨q - 1, by omega⟩
          rw [show j = m f by omega] at ht ⊢
          rw [im_X5_parse_L152, ev_ld (by omega) (by omega), hwd f hf, if_pos (nI_le (Nat.le_refl _) (by omega)), uL_id _ _ _ ht]
        | succ d ih =>
          intro j q ft hj hq ht K
          obtain ⟨g, rfl⟩ : ∃ g, q = g + 6 := ⟨q - 6, by omega⟩
          have hb := tvn_b (w := w) (o := ofs m f) (j := j) (by omega)
          rw [g_six2 (β := Unit) (T := tvn w (ofs m f) j) (mf := m f) hw hn (by omega) (by omega) (hwd f hf) (by omega) hm6 ht (by omega) K g 6 (by omega)]
          rw [show 6 * (ofs m f + j) + 6 = 6 * (ofs m f + (j + 1)) by omega, show 6 * j + 6 = 6 * (j + 1) by omega]
          have hv : tvn w (ofs m f) j * 2 ^ 6 + (w (ofs m f + j)).toNat / 2 ^ (6 - 6) = tvn w (ofs m f) (j + 1) := by rw [tvn]; simp
          rw [hv]
          refine (ih (j + 1) g (vp_updL ft f (lN (tvn w (ofs m f) (j + 1)))) (by omega) (by omega) pk_uLs K).trans ?_
          rw [uL_up]
      refine ⟨(nI (6 * ofs m (f + 1)), vp_updL s.2 f (lN (tvn w (ofs m f) (m f)))), ⟨rfl, fun i hi => ?_⟩, ?_⟩
      · show vp_updL s.2 f _ i = _
        by_cases z : i = f
        · subst z; rw [pk_uLs]
        · rw [pk_uLn z]; exact h2 i (by omega)
      · funext K
        rw [im_X5_parse_L132, if_neg (nI_ge hf (by omega)), ev_stL (by omega) (by omega), ev_j2, h1]
        refine (key (m f) 0 5000 _ (by omega) (by omega) pk_uLs _).trans ?_
        rw [uL_up, ev_lt, nI_1]
        rfl) F 0 (0, ft) 5000 (by omega) (by omega) ⟨rfl, fun i hi => by omega⟩
  exact ⟨s.2, fun K => congrFun e K, h2⟩
