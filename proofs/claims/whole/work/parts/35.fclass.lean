/-! The words near to what was read: at most one; the class's mend finds it. -/
def Cw (n R : Nat) (c : Nat → Gf) : Prop := ∀ j, j < R → bm_S n (Xp n) c j = 0#6
def wr (n : Nat) (w : Nat → Gf) (lost : Nat → Bool) (c : Nat → Gf) : Nat := gf_c n (fun i => !lost i && (w i ^^^ c i) != 0#6)
def Nr (n R : Nat) (w : Nat → Gf) (lost : Nat → Bool) (c : Nat → Gf) : Prop := Cw n R c ∧ 2 * wr n w lost c + gf_c n lost ≤ R
theorem bm_S_add (n : Nat) (X a b : Nat → Gf) (j : Nat) : bm_S n X (fun i => a i ^^^ b i) j = bm_S n X a j ^^^ bm_S n X b j := by
  unfold bm_S
  rw [← gf_s_add]
  exact gf_s_congr (fun i _ => gf_m_addl _ _ _)
theorem bm_S_congr {n : Nat} {X a b : Nat → Gf} (h : ∀ i, i < n → a i = b i) (j : Nat) : bm_S n X a j = bm_S n X b j := by
  unfold bm_S
  exact gf_s_congr (fun i hi => by rw [h i hi])
/-- R equations: a word that is 0 but at R places is 0 -/
theorem cw_few {n R : Nat} {d : Nat → Gf} (hn : n ≤ 22) (hd : Cw n R d) (hc : gf_c n (fun i => d i != 0#6) ≤ R) : ∀ i, i < n → d i = 0#6 := by
  refine gf_vd (Xp_inj hn) (fun i _ => Xp_nz n i) R d 1 hc (fun k hk => ?_)
  have := hd k hk
  unfold bm_S at this
  rw [← this]
  exact gf_s_congr (fun i _ => by rw [Nat.add_comm])
theorem nr_uniq {n R : Nat} {w c1 c2 : Nat → Gf} {lost : Nat → Bool} (hn : n ≤ 22) (h1 : Nr n R w lost c1) (h2 : Nr n R w lost c2) : ∀ i, i < n → c1 i = c2 i := by
  have hz := cw_few (d := fun i => c1 i ^^^ c2 i) hn (fun j hj => by rw [bm_S_add, h1.1 j hj, h2.1 j hj]; exact gf_xs _) (by
    have a1 := gf_c_le (n := n) (p := fun i => (c1 i ^^^ c2 i) != 0#6) (q := fun i => (lost i || ((!lost i && (w i ^^^ c1 i) != 0#6) || (!lost i && (w i ^^^ c2 i) != 0#6)))) (fun i _ q => by
      cases hl : lost i with
      | true => rfl
      | false =>
        simp only [bne_iff_ne, ne_eq] at q
        by_cases e1 : w i ^^^ c1 i = 0#6
        · by_cases e2 : w i ^^^ c2 i = 0#6
          · exfalso
            apply q
            rw [← gf_xe e1, ← gf_xe e2]; exact gf_xs _
          · simp [e2]
        · simp [e1])
    have a2 := gf_c_or n lost (fun i => ((!lost i && (w i ^^^ c1 i) != 0#6) || (!lost i && (w i ^^^ c2 i) != 0#6)))
    have a3 := gf_c_or n (fun i => !lost i && (w i ^^^ c1 i) != 0#6) (fun i => !lost i && (w i ^^^ c2 i) != 0#6)
    have b1 := h1.2
    have b2 := h2.2
    unfold wr at b1 b2
    omega)
  intro i hi
  exact gf_xe (hz i hi)
theorem f_mend {n R N0 N1 NP : Nat} {f0 f1 fe ff fl fn fp fsl fsy : Nat → Int32} {w : Nat → Gf} {lost : Nat → Bool} (hn : n ≤ 22) (hR : R ≤ 8) (hw : Rp n f0 w) (hlo : Lp n f1 lost) (hp : Rp n fp (Xp n)) (h0 : n ≤ N0) (h1 : n ≤ N1) (hNP : n ≤ NP) (b0 : N0 < 1000) (b1 : N1 < 1000) (b2 : NP < 1000) :
    ∃ (r : Int32) (g0 ge gf gl gn gsl gsy : Nat → Int32), im_X0_mend (nI n) (nI R) N0 N1 R (R + 1) (R + 1) (R + 1) NP R R f0 f1 fe ff fl fn fp fsl fsy = some (r, g0, ge, gf, gl, gn, gsl, gsy) ∧
      (∃ z, Rp n g0 z) ∧ (∀ c, Nr n R w lost c → r = nI (wr n w lost c + gf_c n lost) ∧ Rp n g0 c) ∧ ((∀ c, ¬ Nr n R w lost c) → r = -1) := by
  have hcm := gf_c_max n lost
  rw [im_X0_mend, f_cnt hlo h1 b1, ev_b1]
  by_cases he : gf_c n lost ≤ R
  · rw [if_pos (nI_le he (by omega)), ev_j9, ev_j8]
    obtain ⟨s1, e1, hs1⟩ := f_syn (fs := fsy) (R := R) (NS := R) hw h0 b0 (Nat.le_refl R) (by omega)
    obtain ⟨s2, C0, e2, hs2, hg⟩ := f_lost (R := R) (NL := R + 1) (fl := fl) hlo h1 b1 hp hNP b2 (Nat.le_refl _) (by omega) he
    obtain ⟨s3, s4, s5, C, e3, hC, hgood⟩ := f_locate (NF := R + 1) (NL := R + 1) (NS := R) (NN := R + 1) (ff := ff) (fn := fn) hn hR he hs1 (Nat.le_refl _) (Nat.le_refl _) (Nat.le_refl _) (Nat.le_refl _) (by omega) (by omega) (by omega) (by omega) hs2 hg
    obtain ⟨s6, e6, hs6⟩ := f_eval (NE := R) (fe := fe) hC hs1 (Nat.le_refl _) (Nat.le_refl _) (Nat.le_refl _) (by omega) (by omega) (by omega)
    obtain ⟨s7, e7, hs7⟩ := f_slope (NS := R) (fs := fsl) hC (Nat.le_refl _) (Nat.le_refl _) (by omega) (by omega)
    obtain ⟨s8, e8, hs8⟩ := f_corr hw hlo hs6 hC hp hs7 h0 h1 hNP hR b0 b1 b2
    obtain ⟨s9, e9, hs9⟩ := f_syn (fs := s1) (R := R) (NS := R) hs8 h0 b0 (Nat.le_refl R) (by omega)
    have e10 := f_zero hs9 rfl (by omega)
    rw [e1, ev_b1, e2, ev_b1, e3, ev_b3, e6, ev_b1, e7, ev_b1, e8, ev_b2, e9, ev_b1, e10, ev_b1]
    have hwm := gf_c_max n (fun i => !lost i && ch n R C (bm_G (bm_S n (Xp n) w) C) (gf_sl C) i != 0#6)
    have hwr : ∀ c, (∀ i, i < n → c i = w i ^^^ ch n R C (bm_G (bm_S n (Xp n) w) C) (gf_sl C) i) → wr n w lost c = gf_c n (fun i => !lost i && ch n R C (bm_G (bm_S n (Xp n) w) C) (gf_sl C) i != 0#6) := fun c hc => by
      unfold wr
      refine gf_c_congr (fun i hi => ?_)
      rw [hc i hi, ← BitVec.xor_assoc, gf_xs, gf_0x]
    have hgd : ∀ c, Nr n R w lost c → ∀ i, i < n → c i = w i ^^^ ch n R C (bm_G (bm_S n (Xp n) w) C) (gf_sl C) i := fun c hc => by
      have hS : ∀ j, j < R → bm_S n (Xp n) w j = bm_S n (Xp n) (fun i => w i ^^^ c i) j := fun j hj => by rw [bm_S_add, hc.1 j hj, gf_x0]
      have hok : bm_ok n R (gf_c n lost) (wr n w lost c) (fun i => w i ^^^ c i) lost (bm_S n (Xp n) w) := ⟨hS, rfl, rfl, hc.2⟩
      obtain ⟨g1, g2⟩ := hgood _ _ hok
      intro i hi
      have hch : ch n R C (bm_G (bm_S n (Xp n) w) C) (gf_sl C) i = w i ^^^ c i := by
        unfold ch
        by_cases hr : gf_e (R + 1) C (xp n i) = 0#6
        · rw [if_pos hr]
          have hf := bm_forney (R := R) (C := C) (er := fun i => w i ^^^ c i) (Xp_inj hn) (fun i _ => Xx n i) (fun i hi q => (g1 i hi).mpr (Or.inr q)) hi hr
          rw [gf_e_congr (fun k hk => bm_G_congr hS hk), hf, gf_m_assoc, gf_m_i _ (g2 i hi hr), gf_m_1]
        · rw [if_neg hr]
          have hz : w i ^^^ c i = 0#6 := by
            apply Classical.byContradiction
            intro q
            exact hr ((g1 i hi).mpr (Or.inr q))
          exact hz.symm
      rw [hch, ← BitVec.xor_assoc, gf_xs, gf_0x]
    by_cases hz : ∀ j, j < R → bm_S n (Xp n) (fun i => w i ^^^ ch n R C (bm_G (bm_S n (Xp n) w) C) (gf_sl C) i) j = 0#6
    · rw [if_pos hz, if_neg (by decide), ev_lt, ev_lt, show (2 : Int32) = nI 2 from rfl, pk_mul, nI_add]
      by_cases hle : 2 * gf_c n (fun i => !lost i && ch n R C (bm_G (bm_S n (Xp n) w) C) (gf_sl C) i != 0#6) + gf_c n lost ≤ R
      · rw [if_neg (nI_nlt hle (by omega))]
        have hN : Nr n R w lost (fun i => w i ^^^ ch n R C (bm_G (bm_S n (Xp n) w) C) (gf_sl C) i) := ⟨hz, by rw [hwr _ (fun i _ => rfl)]; exact hle⟩
        refine ⟨_, s8, s6, s3, s4, s5, s7, s9, rfl, ⟨_, hs8⟩, fun c hc => ⟨?_, hs8.congr (fun i hi => (hgd c hc i hi).symm)⟩, fun q => absurd hN (q _)⟩
        rw [nI_add, hwr c (hgd c hc)]
      · rw [if_pos (nI_lt (by omega) (by omega))]
        refine ⟨_, s8, s6, s3, s4, s5, s7, s9, rfl, ⟨_, hs8⟩, fun c hc => ?_, fun _ => rfl⟩
        exfalso
        have := hc.2
        rw [hwr c (hgd c hc)] at this
        exact hle this
    · rw [if_neg hz, if_pos rfl]
      refine ⟨_, s8, s6, s3, s4, s5, s7, s9, rfl, ⟨_, hs8⟩, fun c hc => ?_, fun _ => rfl⟩
      exfalso
      apply hz
      intro j hj
      rw [bm_S_congr (fun i hi => (hgd c hc i hi).symm)]
      exact hc.1 j hj
  · rw [if_neg (nI_ge (by omega) (by omega))]
    refine ⟨_, f0, fe, ff, fl, fn, fsl, fsy, rfl, ⟨w, hw⟩, fun c hc => absurd hc.2 (by omega), fun _ => rfl⟩
