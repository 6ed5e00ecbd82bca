/-! Evaluator, slope, the corrections, and the class's mend whole. -/
theorem f_eval {R NL NS NE : Nat} {fl fs fe : Nat → Int32} {C S : Nat → Gf} (hl : Rp (R + 1) fl C) (hs : Rp R fs S) (hNL : R + 1 ≤ NL) (hNS : R ≤ NS) (hNE : R ≤ NE) (b1 : NL < 1000) (b2 : NS < 1000) (b3 : NE < 1000) :
    ∃ s, im_X0_fillEvaluator (nI R) NE NL NS fe fl fs = some s ∧ Rp R s (bm_G S C) := by
  obtain ⟨s, hs', e⟩ := lp_up (fun q k (s : Nat → Int32) => im_X0_fillEvaluator_L2 (nI R) NL NS fl fs NE q k s) (fun s => some s) R (fun k s => Rp k s (bm_G S C))
    (fun q s _ => by
      show im_X0_fillEvaluator_L2 (nI R) NL NS fl fs NE (q + 1) (nI R) s = _
      rw [im_X0_fillEvaluator_L2, if_pos (nI_le (Nat.le_refl R) (by omega))])
    (fun q k s hk hs' => ⟨upd s k (Gi (bm_G S C k)), fun i hi => by
      by_cases e : i = k
      · subst e; exact up_s _ _ _
      · rw [up_n _ _ e]; exact hs' i (by omega), by
      show im_X0_fillEvaluator_L2 (nI R) NL NS fl fs NE (q + 1) (nI k) s = im_X0_fillEvaluator_L2 (nI R) NL NS fl fs NE q (nI (k + 1)) _
      rw [im_X0_fillEvaluator_L2, if_neg (nI_ge hk (by omega)), f_gap hl hs hk hNL hNS b1 b2, ev_b1, ev_st (by omega) (by omega), ev_lt, nI_1]⟩) R 0 fe 5000 (by omega) (by omega) (fun i hi => by omega)
  exact ⟨s, e, hs'⟩
theorem f_slope {R NL NS : Nat} {fl fs : Nat → Int32} {C : Nat → Gf} (hl : Rp (R + 1) fl C) (hNL : R + 1 ≤ NL) (hNS : R ≤ NS) (b1 : NL < 1000) (b2 : NS < 1000) :
    ∃ s, im_X0_fillSlope (nI R) NL NS fl fs = some s ∧ Rp R s (gf_sl C) := by
  obtain ⟨s, hs', e⟩ := lp_up (fun q k (s : Nat → Int32) => im_X0_fillSlope_L2 (nI R) NS NL fl q k s) (fun s => some s) R (fun k s => Rp k s (gf_sl C))
    (fun q s _ => by
      show im_X0_fillSlope_L2 (nI R) NS NL fl (q + 1) (nI R) s = _
      rw [im_X0_fillSlope_L2, if_pos (nI_le (Nat.le_refl R) (by omega))])
    (fun q k s hk hs' => ⟨upd s k (Gi (gf_sl C k)), fun i hi => by
      by_cases e : i = k
      · subst e; exact up_s _ _ _
      · rw [up_n _ _ e]; exact hs' i (by omega), by
      show im_X0_fillSlope_L2 (nI R) NS NL fl (q + 1) (nI k) s = im_X0_fillSlope_L2 (nI R) NS NL fl q (nI (k + 1)) _
      rw [im_X0_fillSlope_L2, if_neg (nI_ge hk (by omega)), ev_j2, ev_lt, show (2 : Int32) = nI 2 from rfl, pk_rem (by omega) (by omega) (by omega)]
      by_cases h2 : k % 2 = 0
      · rw [h2, if_pos (show nI 0 = 0 from rfl), ev_lt, nI_1, ev_ld (by omega) (by omega), hl (k + 1) (by omega)]
        show im_st NS s (nI k) _ _ = _
        rw [ev_st (by omega) (by omega), ev_lt]
        unfold gf_sl
        rw [if_pos h2]
      · rw [if_neg (nI_ne0 (by omega) (by omega))]
        show im_st NS s (nI k) 0 _ = _
        rw [ev_st (by omega) (by omega), ev_lt, nI_1]
        unfold gf_sl
        rw [if_neg h2]
        rfl⟩) R 0 fs 5000 (by omega) (by omega) (fun i hi => by omega)
  exact ⟨s, e, hs'⟩
/-- the change at a place -/
def ch (n R : Nat) (C Om Sl : Nat → Gf) (i : Nat) : Gf := if gf_e (R + 1) C (xp n i) = 0#6 then gf_m (gf_e R Om (xp n i)) (gf_i (gf_e R Sl (xp n i))) else 0#6
theorem f_corr {n R N0 N1 NP : Nat} {f0 f1 fe fl fp fs : Nat → Int32} {w C Om Sl : Nat → Gf} {lost : Nat → Bool} (hw : Rp n f0 w) (hlo : Lp n f1 lost) (he : Rp R fe Om) (hl : Rp (R + 1) fl C) (hp : Rp n fp (Xp n)) (hs : Rp R fs Sl)
    (h0 : n ≤ N0) (h1 : n ≤ N1) (hNP : n ≤ NP) (hR : R ≤ 8) (b0 : N0 < 1000) (b1 : N1 < 1000) (b2 : NP < 1000) :
    ∃ f', im_X0_correct (nI n) N0 N1 R (R + 1) NP R f0 f1 fe fl fp fs = some (nI (gf_c n (fun i => !lost i && ch n R C Om Sl i != 0#6)), f') ∧ Rp n f' (fun i => w i ^^^ ch n R C Om Sl i) := by
  have hmax := gf_c_max
  obtain ⟨s, hs', e⟩ := lp_up (fun q k (s : Int32 × (Nat → Int32)) => im_X0_correct_L5 (nI n) NP fp (R + 1) fl R fs R fe N0 N1 f1 q s.1 k s.2) (fun s => some (s.1, s.2)) n
    (fun i s => s.1 = nI (gf_c i (fun i => !lost i && ch n R C Om Sl i != 0#6)) ∧ (∀ j, j < i → s.2 j = Gi (w j ^^^ ch n R C Om Sl j)) ∧ ∀ j, i ≤ j → j < n → s.2 j = Gi (w j))
    (fun q s _ => by
      show im_X0_correct_L5 _ _ _ _ _ _ _ _ _ _ _ _ (q + 1) s.1 (nI n) s.2 = _
      rw [im_X0_correct_L5, if_pos (nI_le (Nat.le_refl n) (by omega))])
    (fun q i s hi hs' => by
      obtain ⟨q1, q2, q3⟩ := hs'
      have ec := f_val hl (by omega) (xp n i)
      have es := f_val hs (by omega) (xp n i)
      have ee := f_val he (by omega) (xp n i)
      by_cases hr : gf_e (R + 1) C (xp n i) = 0#6
      · have hch : ch n R C Om Sl i = gf_m (gf_e R Om (xp n i)) (gf_i (gf_e R Sl (xp n i))) := if_pos hr
        refine ⟨(nI (gf_c (i + 1) (fun i => !lost i && ch n R C Om Sl i != 0#6)), upd s.2 i (Gi (w i ^^^ ch n R C Om Sl i))), ⟨rfl, fun j hj => ?_, fun j h1 h2 => ?_⟩, ?_⟩
        · by_cases z : j = i
          · subst z; exact up_s _ _ _
          · exact (up_n _ _ z).trans (q2 j (by omega))
        · exact (up_n _ _ (by omega)).trans (q3 j (by omega) h2)
        · show im_X0_correct_L5 _ _ _ _ _ _ _ _ _ _ _ _ (q + 1) s.1 (nI i) s.2 = im_X0_correct_L5 _ _ _ _ _ _ _ _ _ _ _ _ q (nI (gf_c (i + 1) (fun i => !lost i && ch n R C Om Sl i != 0#6))) (nI (i + 1)) (upd s.2 i (Gi (w i ^^^ ch n R C Om Sl i)))
          rw [im_X0_correct_L5, if_neg (nI_ge hi (by omega)), ev_j2, ev_ld (by omega) (by omega), hp i hi, ar_inv, ev_b1, ec, ev_b1, if_pos (Gi_z.mpr hr), ev_j3, ev_j2, es, ev_b1, ee, ev_b1, ar_inv, ev_b1, ar_prod, ev_b1, ev_ld (by omega) (by omega), ev_lt, q3 i (Nat.le_refl i) hi, Gi_xor, ev_st (by omega) (by omega), ← hch, q1]
          by_cases hc : ch n R C Om Sl i = 0#6
          · rw [if_pos (Gi_z.mpr hc)]
            show im_lt (nI (gf_c i _) + 0) _ = _
            rw [ev_lt]
            show im_lt (nI i + 1) _ = _
            rw [ev_lt, nI_1, Int32.add_zero, gf_c]
            simp only [hc]
            cases lost i <;> rfl
          · rw [if_neg (fun z => hc (Gi_z.mp z)), ev_ld (by omega) (by omega), hlo i hi]
            cases hlt : lost i with
            | true =>
              rw [if_neg (by decide)]
              show im_lt (nI (gf_c i _) + 0) _ = _
              rw [ev_lt]
              show im_lt (nI i + 1) _ = _
              rw [ev_lt, nI_1, Int32.add_zero, gf_c]
              simp only [hlt]
              rfl
            | false =>
              rw [if_pos (by decide)]
              show im_lt (nI (gf_c i _) + 1) _ = _
              rw [ev_lt]
              show im_lt (nI i + 1) _ = _
              rw [ev_lt, nI_1, nI_1, gf_c]
              have hb : (!lost i && ch n R C Om Sl i != 0#6) = true := by simp [hlt, hc]
              simp only [hb, if_true]
      · have hch : ch n R C Om Sl i = 0#6 := if_neg hr
        refine ⟨(nI (gf_c (i + 1) (fun i => !lost i && ch n R C Om Sl i != 0#6)), s.2), ⟨rfl, fun j hj => ?_, fun j h1 h2 => q3 j (by omega) h2⟩, ?_⟩
        · by_cases z : j = i
          · subst z; rw [hch, gf_x0]; exact q3 j (Nat.le_refl j) hi
          · exact q2 j (by omega)
        · show im_X0_correct_L5 _ _ _ _ _ _ _ _ _ _ _ _ (q + 1) s.1 (nI i) s.2 = im_X0_correct_L5 _ _ _ _ _ _ _ _ _ _ _ _ q (nI (gf_c (i + 1) (fun i => !lost i && ch n R C Om Sl i != 0#6))) (nI (i + 1)) s.2
          rw [im_X0_correct_L5, if_neg (nI_ge hi (by omega)), ev_j2, ev_ld (by omega) (by omega), hp i hi, ar_inv, ev_b1, ec, ev_b1, if_neg (fun z => hr (Gi_z.mp z)), q1]
          show im_lt (nI i + 1) _ = _
          rw [ev_lt, nI_1, gf_c]
          have hb : (!lost i && ch n R C Om Sl i != 0#6) = false := by simp [hch]
          simp only [hb]
          rfl) n 0 (0, f0) 5000 (by omega) (by omega) ⟨rfl, fun j hj => by omega, fun j _ h2 => hw j h2⟩
  refine ⟨s.2, ?_, hs'.2.1⟩
  rw [← hs'.1]
  exact e
theorem f_zero {R N : Nat} {f : Nat → Int32} {S : Nat → Gf} (hf : Rp R f S) (hN : N = R) (hb : N < 1000) :
    im_X0_allZero N f = some (if ∀ j, j < R → S j = 0#6 then 1 else 0) := by
  subst hN
  have key : ∀ (d i q : Nat), i + d = N → d < q → (∀ j, j < i → S j = 0#6) → im_X0_allZero_L2 N f q (nI i) = some (if ∀ j, j < N → S j = 0#6 then 1 else 0) := by
    intro d
    induction d with
    | zero =>
      intro i q hi hq hz
      obtain ⟨g, rfl⟩ : ∃ g, q = g + 1 := ⟨q - 1, by omega⟩
      rw [im_X0_allZero_L2, if_pos (nI_le (by omega) (by omega)), if_pos (fun j hj => hz j (by omega))]
    | succ d ih =>
      intro i q hi hq hz
      obtain ⟨g, rfl⟩ : ∃ g, q = g + 1 := ⟨q - 1, by omega⟩
      rw [im_X0_allZero_L2, if_neg (nI_ge (by omega) (by omega)), ev_ld (by omega) (by omega), hf i (by omega)]
      by_cases h0 : S i = 0#6
      · rw [if_pos (Gi_z.mpr h0), ev_lt, nI_1]
        refine ih (i + 1) g (by omega) (by omega) (fun j hj => ?_)
        by_cases e : j = i
        · rw [e]; exact h0
        · exact hz j (by omega)
      · rw [if_neg (fun z => h0 (Gi_z.mp z)), if_neg (fun z => h0 (z i (by omega)))]
  exact key N 0 5000 (by omega) (by omega) (fun j hj => by omega)
