/-! The check symbols: division by the generator. -/
theorem hn_split (z : Nat → Gf) (a : Gf) (m R : Nat) : hn z a (m + R) = gf_m (hn z a m) (gf_p a R) ^^^ hn (fun k => z (m + k)) a R := by
  induction R with
  | zero => rw [Nat.add_zero]; show _ = gf_m _ 1#6 ^^^ 0#6; rw [gf_m_1, gf_x0]
  | succ R ih =>
    rw [← Nat.add_assoc, hn, ih, hn, gf_p, gf_m_addl, BitVec.xor_assoc]
    congr 1
    rw [gf_m_assoc, gf_m_comm a]
theorem hn_congr {z y : Nat → Gf} {n : Nat} (a : Gf) (h : ∀ i, i < n → z i = y i) : hn z a n = hn y a n := by
  induction n with
  | zero => rfl
  | succ n ih => rw [hn, hn, ih (fun i hi => h i (by omega)), h n (by omega)]
/-- the register's next contents -/
def rg (R : Nat) (G : Nat → Gf) (fac : Gf) (reg : Nat → Gf) (k : Nat) : Gf := (if k + 1 < R then reg (k + 1) else 0#6) ^^^ gf_m fac (G (R - 1 - k))
theorem rg_step {R : Nat} {G reg : Nat → Gf} {a fac : Gf} (hR : 0 < R) (hG : gf_e (R + 1) G a = 0#6) (h1 : G R = 1#6) : hn (rg R G fac reg) a R = gf_m a (hn reg a R) ^^^ gf_m (reg 0) (gf_p a R) ^^^ gf_m fac (gf_p a R) := by
  obtain ⟨r, rfl⟩ : ∃ r, R = r + 1 := ⟨R - 1, by omega⟩
  rw [hn_s, hn_s]
  have e1 : gf_s (r + 1) (fun i => gf_m (rg (r + 1) G fac reg i) (gf_p a (r + 1 - 1 - i))) = gf_s (r + 1) (fun i => gf_m (if i + 1 < r + 1 then reg (i + 1) else 0#6) (gf_p a (r + 1 - 1 - i))) ^^^ gf_m fac (gf_s (r + 1) (fun i => gf_m (G (r + 1 - 1 - i)) (gf_p a (r + 1 - 1 - i)))) := by
    rw [← gf_s_m, ← gf_s_add]
    exact gf_s_congr (fun i _ => by unfold rg; rw [gf_m_addl, gf_m_assoc])
  have e2 : gf_s (r + 1) (fun i => gf_m (if i + 1 < r + 1 then reg (i + 1) else 0#6) (gf_p a (r + 1 - 1 - i))) = gf_m a (gf_s (r + 1) (fun i => gf_m (reg i) (gf_p a (r + 1 - 1 - i)))) ^^^ gf_m (reg 0) (gf_p a (r + 1)) := by
    rw [gf_s, if_neg (by omega), gf_0_m, gf_x0, gf_s_head, gf_m_addr, ← gf_s_m]
    rw [show gf_m a (gf_m (reg 0) (gf_p a (r + 1 - 1 - 0))) = gf_m (reg 0) (gf_p a (r + 1)) by
      rw [gf_m_l]; rfl]
    rw [BitVec.xor_comm (gf_m (reg 0) _), gf_xx]
    refine gf_s_congr (fun i hi => ?_)
    rw [if_pos (by omega), show r + 1 - 1 - i = (r + 1 - 1 - (i + 1)) + 1 by omega, gf_p, gf_m_l]
  have e3 : gf_s (r + 1) (fun i => gf_m (G (r + 1 - 1 - i)) (gf_p a (r + 1 - 1 - i))) = gf_p a (r + 1) := by
    rw [gf_s_rev (r + 1) (fun i => gf_m (G i) (gf_p a i))]
    rw [gf_e_s, gf_s, h1, gf_1_m] at hG
    exact gf_xe hG
  rw [e1, e2, e3]
theorem f_complin {n R N : Nat} {s fg : Nat → Int32} {u G : Nat → Gf} (fac : Gf) (hs : Rp n s u) (hg : Rp (R + 1) fg G) (hR : R ≤ n) (hN : n ≤ N) (hb : N < 1000) :
    ∃ s', Rp n s' (fun i => if i < n - R then u i else rg R G fac (fun k => u (n - R + k)) (i - (n - R))) ∧ ∀ K, im_X0_complete_L49 (nI R) K (nI (n - R)) (R + 1) fg (Gi fac) N 5000 0 s = K s' := by
  obtain ⟨s', hs', e⟩ := lp_up (fun q k (s : Nat → Int32) => fun K => im_X0_complete_L49 (nI R) K (nI (n - R)) (R + 1) fg (Gi fac) N q k s) (fun s => fun K => K s) R
    (fun k s => (∀ i, i < n - R → s i = Gi (u i)) ∧ (∀ j, j < k → s (n - R + j) = Gi (rg R G fac (fun k => u (n - R + k)) j)) ∧ ∀ j, k ≤ j → j < R → s (n - R + j) = Gi (u (n - R + j)))
    (fun q s _ => by
      funext K
      rw [im_X0_complete_L49, if_pos (nI_le (Nat.le_refl R) (by omega))])
    (fun q k s hk hs => by
      obtain ⟨q1, q2, q3⟩ := hs
      refine ⟨upd s (n - R + k) (Gi (rg R G fac (fun k => u (n - R + k)) k)), ⟨fun i hi => (up_n _ _ (by omega)).trans (q1 i hi), fun j hj => ?_, fun j h1 h2 => (up_n _ _ (by omega)).trans (q3 j (by omega) h2)⟩, ?_⟩
      · by_cases z : j = k
        · subst z; exact up_s _ _ _
        · exact (up_n _ _ (by omega)).trans (q2 j (by omega))
      · funext K
        rw [im_X0_complete_L49, if_neg (nI_ge hk (by omega)), ev_j1, ev_lt, nI_1]
        by_cases hk1 : k + 1 < R
        · rw [if_neg (nI_ge hk1 (by omega)), ev_lt, ev_lt, nI_add, nI_1, ev_ld (by omega) (by omega)]
          show im_lt (nI (n - R + k)) _ = _
          rw [ev_lt, ev_lt, ev_lt, show (1 : Int32) = nI 1 from rfl, pk_sub (by omega), pk_sub (by omega), ev_ld (by omega) (by omega), hg (R - 1 - k) (by omega), ar_prod, ev_b1, ev_lt, show n - R + k + 1 = n - R + (k + 1) by omega, q3 (k + 1) (by omega) hk1, Gi_xor, ev_st (by omega) (by omega), ev_lt]
          unfold rg
          rw [if_pos hk1]
        · rw [if_pos (nI_le (by omega) (by omega))]
          show im_lt (nI (n - R) + nI k) _ = _
          rw [ev_lt, ev_lt, ev_lt, nI_add, show (1 : Int32) = nI 1 from rfl, pk_sub (by omega), pk_sub (by omega), ev_ld (by omega) (by omega), hg (R - 1 - k) (by omega), ar_prod, ev_b1, ev_lt, show (0 : Int32) = Gi 0#6 from rfl, Gi_xor, ev_st (by omega) (by omega), ev_lt]
          unfold rg
          rw [if_neg hk1]) R 0 s 5000 (by omega) (by omega) ⟨fun i hi => hs i (by omega), fun j hj => by omega, fun j _ h2 => hs _ (by omega)⟩
  refine ⟨s', fun i hi => ?_, fun K => congrFun e K⟩
  by_cases z : i < n - R
  · rw [hs'.1 i z]; simp [z]
  · have := hs'.2.1 (i - (n - R)) (by omega)
    rw [show n - R + (i - (n - R)) = i by omega] at this
    rw [this]; simp [z]
theorem f_comp {n R N : Nat} {f fg : Nat → Int32} {w G : Nat → Gf} (hR0 : 0 < R) (hR : R ≤ n) (hw : Rp (n - R) f w) (hg : Rp (R + 1) fg G) (h1 : G R = 1#6) (hroot : ∀ j, j < R → gf_e (R + 1) G (gf_p 2#6 (j + 1)) = 0#6) (hN : n ≤ N) (hb : N < 1000) :
    ∃ f' z, im_X0_complete (nI n) (nI R) N (R + 1) f fg = some f' ∧ Rp n f' z ∧ Cw n R z ∧ ∀ i, i < n - R → z i = w i := by
  -- the zeros
  obtain ⟨s0, hs0, e0⟩ := lp_up (fun q k (s : Nat → Int32) => fun K => im_X0_complete_L12 (nI n) K N q k s) (fun s => fun K => K s) n (fun k s => n - R ≤ k ∧ (∀ i, i < n - R → s i = Gi (w i)) ∧ ∀ i, n - R ≤ i → i < k → s i = Gi 0#6)
    (fun q s _ => by
      funext K
      rw [im_X0_complete_L12, if_pos (nI_le (Nat.le_refl n) (by omega))])
    (fun q k s hk hs => by
      obtain ⟨hkf, hs1, hs2⟩ := hs
      refine ⟨upd s k 0, ⟨by omega, fun i hi => (up_n _ _ (by omega)).trans (hs1 i hi), fun i q1 q2 => ?_⟩, ?_⟩
      · by_cases z : i = k
        · subst z; exact up_s _ _ _
        · exact (up_n _ _ z).trans (hs2 i q1 (by omega))
      · funext K
        rw [im_X0_complete_L12, if_neg (nI_ge hk (by omega)), ev_st (by omega) (by omega), ev_lt, nI_1]) R (n - R) f 5000 (by omega) (by omega) ⟨Nat.le_refl _, hw, fun i q1 q2 => by omega⟩
  obtain ⟨s, hs, e⟩ := lp_up (fun q k (s : Nat → Int32) => im_X0_complete_L32 (nI (n - R)) N (nI R) (R + 1) fg q k s) (fun s => some s) (n - R)
    (fun i s => ∃ u : Nat → Gf, Rp n s u ∧ (∀ j, j < n - R → u j = w j) ∧ ∀ j, j < R → hn (fun k => u (n - R + k)) (gf_p 2#6 (j + 1)) R = gf_m (hn w (gf_p 2#6 (j + 1)) i) (gf_p (gf_p 2#6 (j + 1)) R))
    (fun q s _ => by
      show im_X0_complete_L32 (nI (n - R)) N (nI R) (R + 1) fg (q + 1) (nI (n - R)) s = some s
      rw [im_X0_complete_L32, if_pos (nI_le (Nat.le_refl _) (by omega))])
    (fun q i s hi hs => by
      obtain ⟨u, hu, hud, hur⟩ := hs
      obtain ⟨s', hs', e'⟩ := f_complin (u i ^^^ u (n - R)) hu hg hR hN hb
      refine ⟨s', ⟨_, hs', fun j hj => ?_, fun j hj => ?_⟩, ?_⟩
      · simp only [hj, if_true]; exact hud j hj
      · have e1 : hn (fun k => (fun i_1 => if i_1 < n - R then u i_1 else rg R G (u i ^^^ u (n - R)) (fun k => u (n - R + k)) (i_1 - (n - R))) (n - R + k)) (gf_p 2#6 (j + 1)) R = hn (rg R G (u i ^^^ u (n - R)) (fun k => u (n - R + k))) (gf_p 2#6 (j + 1)) R := hn_congr _ (fun k _ => by
          simp only [show ¬ n - R + k < n - R by omega, if_false]
          rw [show n - R + k - (n - R) = k by omega])
        rw [e1, rg_step hR0 (hroot j hj) h1, hur j hj, hn, ← hud i hi]
        simp only [Nat.add_zero]
        rw [gf_m_addl (u i), gf_m_addl (gf_m _ _), BitVec.xor_comm (gf_m (u i) _), ← BitVec.xor_assoc, gf_xx]
        congr 1
        rw [← gf_m_assoc, gf_m_comm (gf_p 2#6 (j + 1)) (hn _ _ _)]
      · show im_X0_complete_L32 (nI (n - R)) N (nI R) (R + 1) fg (q + 1) (nI i) s = im_X0_complete_L32 (nI (n - R)) N (nI R) (R + 1) fg q (nI (i + 1)) s'
        rw [im_X0_complete_L32, if_neg (nI_ge hi (by omega)), ev_ld (by omega) (by omega), ev_ld (by omega) (by omega), ev_lt, hu i (by omega), hu (n - R) (by omega), Gi_xor, ev_j1, e', ev_lt, nI_1]) (n - R) 0 s0 5000 (by omega) (by omega) ⟨fun i => if i < n - R then w i else 0#6, fun i hi => by
        by_cases z : i < n - R
        · rw [hs0.2.1 i z]; simp [z]
        · rw [hs0.2.2 i (by omega) hi]; simp [z], fun j hj => by simp [hj], fun j hj => by
        have : hn (fun k => if n - R + k < n - R then w (n - R + k) else 0#6) (gf_p 2#6 (j + 1)) R = hn (fun _ => 0#6) (gf_p 2#6 (j + 1)) R := hn_congr _ (fun k _ => if_neg (by omega))
        rw [this]
        show _ = gf_m 0#6 _
        rw [gf_0_m, hn_s]
        exact gf_s_zero (fun i _ => gf_0_m _)⟩
  obtain ⟨u, hu, hud, hur⟩ := hs
  refine ⟨s, u, ?_, hu, fun j hj => ?_, hud⟩
  · rw [im_X0_complete, ev_lt, pk_sub hR, ev_j1]
    exact (congrFun e0 _).trans e
  · rw [← hn_bm]
    have := hn_split u (gf_p 2#6 (j + 1)) (n - R) R
    rw [show n - R + R = n by omega] at this
    rw [this, hur j hj, hn_congr _ hud]
    exact gf_xs _
/-! the tables that a constructor fills, at the four forms -/
def Gc (R k : Nat) : Gf := match R with
  | 2 => [8#6, 6#6, 1#6].getD k 0#6
  | 4 => [48#6, 17#6, 29#6, 30#6, 1#6].getD k 0#6
  | 6 => [59#6, 48#6, 46#6, 55#6, 13#6, 61#6, 1#6].getD k 0#6
  | _ => [22#6, 6#6, 20#6, 47#6, 48#6, 37#6, 61#6, 55#6, 1#6].getD k 0#6
theorem Gc_top : ∀ R ∈ [2, 4, 6, 8], Gc R R = 1#6 := by decide +kernel
theorem Gc_root : ∀ R ∈ [2, 4, 6, 8], ∀ j, j < R → gf_e (R + 1) (Gc R) (gf_p 2#6 (j + 1)) = 0#6 := by decide +kernel
set_option maxRecDepth 100000 in
set_option maxHeartbeats 4000000 in
theorem gen_ok : ∀ R ∈ [2, 4, 6, 8], (im_X0_fillGenerator (nI R) (R + 1) (fun _ => 0)).map (fun f => decide (∀ k, k < R + 1 → f k = Gi (Gc R k))) = some true := by decide +kernel
set_option maxRecDepth 100000 in
set_option maxHeartbeats 4000000 in
theorem pow_ok : ∀ n ∈ [5, 12, 16, 22], (im_X0_fillPowers (nI n) n (fun _ => 0)).map (fun f => decide (∀ k, k < n → f k = Gi (Xp n k))) = some true := by decide +kernel
theorem map_dec {α : Type} {x : Option α} {P : α → Prop} [DecidablePred P] (h : x.map (fun f => decide (P f)) = some true) : ∃ f, x = some f ∧ P f := by
  cases x with
  | none => cases h
  | some f => exact ⟨f, rfl, of_decide_eq_true (Option.some.inj h)⟩
