/-! Berlekamp and Massey's loop as the class runs it. -/
/-- what is wrong: er, v places of it that are not lost, e lost ones; S the syndromes -/
def bm_ok (n R e v : Nat) (er : Nat → Gf) (lost : Nat → Bool) (S : Nat → Gf) : Prop := (∀ j, j < R → S j = bm_S n (Xp n) er j) ∧ gf_c n (fun i => !lost i && er i != 0#6) = v ∧ gf_c n lost = e ∧ 2 * v + e ≤ R
theorem Xp_inj {n : Nat} (hn : n ≤ 22) : ∀ i j, i < n → j < n → Xp n i = Xp n j → i = j := by
  have key : ∀ a b : Fin 22, gf_p 2#6 a = gf_p 2#6 b → a = b := by decide +kernel
  intro i j hi hj h
  have := key ⟨n - 1 - i, by omega⟩ ⟨n - 1 - j, by omega⟩ h
  have := congrArg Fin.val this
  simp only at this
  omega
theorem xp_inj {n : Nat} (hn : n ≤ 22) : ∀ i j, i < n → j < n → xp n i = xp n j → i = j := by
  intro i j hi hj h
  refine Xp_inj hn i j hi hj ?_
  have h1 := Xx n i
  have h2 := Xx n j
  rw [h] at h1
  have : gf_m (xp n j) (Xp n i) = gf_m (xp n j) (Xp n j) := by rw [gf_m_comm, h1, gf_m_comm, h2]
  exact gf_cancel (gf_i_nz (Xp_nz n j)) this
theorem bm_G_congr {S T C : Nat → Gf} {R k : Nat} (h : ∀ j, j < R → S j = T j) (hk : k < R) : bm_G S C k = bm_G T C k := by
  unfold bm_G
  exact gf_s_congr (fun j _ => by rw [h (k - j) (by omega)])
/-- the state of the loop ahead of step r -/
def bm_J (n R e : Nat) (lost : Nat → Bool) (S : Nat → Gf) (r : Nat) (s : Int32 × (Nat → Int32) × (Nat → Int32) × (Nat → Int32)) : Prop :=
  ∃ (L : Nat) (C B : Nat → Gf), s.1 = nI L ∧ e ≤ L ∧ L ≤ r ∧ r ≤ R ∧ Rp (R + 1) s.2.1 B ∧ Rp (R + 1) s.2.2.1 C ∧ ∀ (er : Nat → Gf) (v : Nat), bm_ok n R e v er lost S → bm_I n R e v (Xp n) (xp n) er lost r C B L
theorem f_bm {n R e NF NL NS NN : Nat} {lost : Nat → Bool} {S : Nat → Gf} {fs : Nat → Int32} (hn : n ≤ 22) (hR : R ≤ 8) (he : e ≤ R) (hS : Rp R fs S) (hF : R + 1 ≤ NF) (hL : R + 1 ≤ NL) (hNS : R ≤ NS) (hNN : R + 1 ≤ NN) (b1 : NF < 1000) (b2 : NL < 1000) (b3 : NS < 1000) (b4 : NN < 1000)
    (s0 : Int32 × (Nat → Int32) × (Nat → Int32) × (Nat → Int32)) (h0 : bm_J n R e lost S e s0) :
    ∃ s, bm_J n R e lost S R s ∧ im_X0_locateWrong_L23 (nI R) NF NL NS fs NN (nI e) 5000 s0.1 (nI e) s0.2.1 s0.2.2.1 s0.2.2.2 = some (s.2.1, s.2.2.1, s.2.2.2) := by
  obtain ⟨s, hs, e9⟩ := lp_up (fun q k (s : Int32 × (Nat → Int32) × (Nat → Int32) × (Nat → Int32)) => im_X0_locateWrong_L23 (nI R) NF NL NS fs NN (nI e) q s.1 k s.2.1 s.2.2.1 s.2.2.2) (fun s => some (s.2.1, s.2.2.1, s.2.2.2)) R (bm_J n R e lost S)
    (fun q s _ => by
      show im_X0_locateWrong_L23 (nI R) NF NL NS fs NN (nI e) (q + 1) s.1 (nI R) s.2.1 s.2.2.1 s.2.2.2 = _
      rw [im_X0_locateWrong_L23, if_pos (nI_le (Nat.le_refl R) (by omega))])
    (fun q r s hr hs => by
      obtain ⟨L, C, B, hL1, hel, hlr, hrR, hB, hC, hI⟩ := hs
      obtain ⟨fB, eB, hB1⟩ := f_mulX hB hF b1
      have eg := f_gap hC hS hr hL hNS b2 b3
      have hgap : ∀ (er : Nat → Gf) (v : Nat), bm_ok n R e v er lost S → bm_G S C r = bm_T n R (Xp n) (xp n) er r C := fun er v hok => by
        rw [bm_G_congr hok.1 hr]
        exact bm_conv (fun i _ => Xx n i) (by omega) (fun j q1 q2 => (hI er v hok).1 j (by omega) q2)
      by_cases hg : bm_G S C r = 0#6
      · refine ⟨(s.1, fB, s.2.2.1, s.2.2.2), ⟨L, C, gf_sh B, hL1, hel, by omega, by omega, hB1, hC, fun er v hok => bm_keep (fun i _ => Xx n i) hr (hI er v hok) (by rw [← hgap er v hok]; exact hg)⟩, ?_⟩
        show im_X0_locateWrong_L23 (nI R) NF NL NS fs NN (nI e) (q + 1) s.1 (nI r) s.2.1 s.2.2.1 s.2.2.2 = im_X0_locateWrong_L23 (nI R) NF NL NS fs NN (nI e) q s.1 (nI (r + 1)) fB s.2.2.1 s.2.2.2
        rw [im_X0_locateWrong_L23, if_neg (nI_ge hr (by omega)), ev_j4, eB, ev_b1, eg, ev_b1, if_pos (Gi_z.mpr hg)]
        show im_lt (nI r + 1) _ = _
        rw [ev_lt, nI_1]
      · by_cases hgr : 2 * L ≤ r + e
        · obtain ⟨f1, f2, f3, ea, h2, h1⟩ := f_add (fn := s.2.2.2) hB1 hC (bm_G S C r) hF hL hNN b1 b2 b4 true
          refine ⟨(nI (r + 1 + e - L), f1, f2, f3), ⟨r + 1 + e - L, _, _, rfl, by omega, by omega, by omega, h1, h2, fun er v hok => ?_⟩, ?_⟩
          · have hg2 := hgap er v hok
            simp only [if_true]
            rw [hg2] at hg ⊢
            exact bm_grow (Xp_inj hn) (fun i _ => Xp_nz n i) (Nat.le_of_eq hok.2.1) (fun i _ => Xx n i) hr (hI er v hok) hgr hg
          · show im_X0_locateWrong_L23 (nI R) NF NL NS fs NN (nI e) (q + 1) s.1 (nI r) s.2.1 s.2.2.1 s.2.2.2 = im_X0_locateWrong_L23 (nI R) NF NL NS fs NN (nI e) q (nI (r + 1 + e - L)) (nI (r + 1)) f1 f2 f3
            rw [im_X0_locateWrong_L23, if_neg (nI_ge hr (by omega)), ev_j4, eB, ev_b1, eg, ev_b1, if_neg (fun z => hg (Gi_z.mp z)), ev_j1, ev_lt, ev_lt, hL1, show (2 : Int32) = nI 2 from rfl, pk_mul, nI_add, if_neg (nI_nlt (by omega) (by omega))]
            show im_j4 _ _ = _
            rw [ev_j4]
            have ea' : im_X0_addFormer (Gi (bm_G S C r)) 1 (nI R) NF NL NN fB s.2.2.1 s.2.2.2 = some (f1, f2, f3) := ea
            rw [ea', ev_b3, if_neg (by decide), ev_lt, ev_lt, ev_lt, nI_1, nI_add, pk_sub (by omega)]
            show im_lt (nI (r + 1)) _ = _
            rw [ev_lt]
        · obtain ⟨f1, f2, f3, ea, h2, h1⟩ := f_add (fn := s.2.2.2) hB1 hC (bm_G S C r) hF hL hNN b1 b2 b4 false
          refine ⟨(nI L, f1, f2, f3), ⟨L, _, _, rfl, hel, by omega, by omega, h1, h2, fun er v hok => ?_⟩, ?_⟩
          · have hg2 := hgap er v hok
            rw [hg2]
            exact bm_small (fun i _ => Xx n i) hr (hI er v hok) hgr
          · show im_X0_locateWrong_L23 (nI R) NF NL NS fs NN (nI e) (q + 1) s.1 (nI r) s.2.1 s.2.2.1 s.2.2.2 = im_X0_locateWrong_L23 (nI R) NF NL NS fs NN (nI e) q (nI L) (nI (r + 1)) f1 f2 f3
            rw [im_X0_locateWrong_L23, if_neg (nI_ge hr (by omega)), ev_j4, eB, ev_b1, eg, ev_b1, if_neg (fun z => hg (Gi_z.mp z)), ev_j1, ev_lt, ev_lt, hL1, show (2 : Int32) = nI 2 from rfl, pk_mul, nI_add, if_pos (nI_lt (by omega) (by omega))]
            show im_j4 _ _ = _
            rw [ev_j4]
            have ea' : im_X0_addFormer (Gi (bm_G S C r)) 0 (nI R) NF NL NN fB s.2.2.1 s.2.2.2 = some (f1, f2, f3) := ea
            rw [ea', ev_b3, if_pos rfl]
            show im_lt (nI r + 1) _ = _
            rw [ev_lt, nI_1]) (R - e) e s0 5000 (by omega) (by omega) h0
  exact ⟨s, hs, e9⟩
/-- the locator, after all steps: total; and if little enough is wrong, it is 0 there alone -/
theorem f_locate {n R NF NL NS NN : Nat} {lost : Nat → Bool} {S C0 : Nat → Gf} {fs ff fl fn : Nat → Int32} (hn : n ≤ 22) (hR : R ≤ 8) (he : gf_c n lost ≤ R) (hS : Rp R fs S) (hF : R + 1 ≤ NF) (hL : R + 1 ≤ NL) (hNS : R ≤ NS) (hNN : R + 1 ≤ NN) (b1 : NF < 1000) (b2 : NL < 1000) (b3 : NS < 1000) (b4 : NN < 1000)
    (hC0 : Rp (R + 1) fl C0) (hg : ga_I n R n lost C0) :
    ∃ f1 f2 f3 C, im_X0_locateWrong (nI (gf_c n lost)) (nI R) NF NL NN NS ff fl fn fs = some (f1, f2, f3) ∧ Rp (R + 1) f2 C ∧
      ∀ (er : Nat → Gf) (v : Nat), bm_ok n R (gf_c n lost) v er lost S → (∀ i, i < n → (gf_e (R + 1) C (xp n i) = 0#6 ↔ (lost i = true ∨ er i ≠ 0#6))) ∧ ∀ i, i < n → gf_e (R + 1) C (xp n i) = 0#6 → gf_e R (gf_sl C) (xp n i) ≠ 0#6 := by
  have hJ : bm_J n R (gf_c n lost) lost S (gf_c n lost) (nI (gf_c n lost), va_cpy fl ff 0 0 (R + 1), fl, fn) := by
    refine ⟨gf_c n lost, C0, C0, rfl, Nat.le_refl _, Nat.le_refl _, he, cpy_R hC0, hC0, fun er v hok => ?_⟩
    refine ⟨fun k q1 q2 => hg.2.1 k q1 q2, Nat.le_refl _, Nat.le_refl _, hg.1, fun i hi hl => ⟨hg.2.2 i hi hl, hg.2.2 i hi hl⟩, fun k q1 q2 => by omega, fun k q1 q2 => hg.2.1 k (by omega) q2, fun q => by omega, by omega⟩
  obtain ⟨s, ⟨L, C, B, -, -, -, -, hB, hC, hI⟩, e⟩ := f_bm hn hR he hS hF hL hNS hNN b1 b2 b3 b4 _ hJ
  refine ⟨s.2.1, s.2.2.1, s.2.2.2, C, ?_, hC, fun er v hok => ?_⟩
  · rw [im_X0_locateWrong, ev_lt, nI_1, f_cpy hL hF b2 b1]
    exact e
  · exact bm_end (Xp_inj hn) (fun i _ => Xp_nz n i) (xp_inj hn) hok.2.1 hok.2.2.1 hok.2.2.2 (hI er v hok)
