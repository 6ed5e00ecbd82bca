def Ky (k : Nat) (fm : Int32) (key : Gf) : Prop := (k = 3 → fm &&& 63 = Gi key) ∧ (k ≠ 3 → key = 0#6)
theorem ky_0 {k : Nat} {fm : Int32} {key : Gf} (h : Ky k fm key) (h3 : k ≠ 3) (s : Nat) : ky k key s = 0#6 := by
  rw [ky, h.2 h3]; split <;> rfl
theorem g_sig {k s : Nat} {fm : Int32} {key : Gf} {w : Nat → Gf} {fw : Nat → Int32} (hk : k < 4) (hK : Ky k fm key) (hw : fw s = Gi (w s)) (hs : s < kn k) : im_X5_signed (nI s) (nI k) fm (nI (kR k)) (nI (kn k)) 22 fw = some (Gi (w s ^^^ ky k key s)) := by
  have hp := kp k hk
  rw [im_X5_signed, ev_j0]
  by_cases z : k = 3
  · rw [if_pos ((k_3 hk).2 z), ev_lt, pk_sub (by omega), ev_ld (by omega) (by omega), ev_ld (by omega) (by omega), ev_lt, ev_lt, hw, hK.1 z, Gi_xor, ky]
    by_cases y : s < kn k - kR k
    · rw [if_pos (nI_lt y (by omega)), if_pos y, gf_x0]
    · rw [if_neg (nI_nlt (by omega) (by omega)), if_neg y]
  · rw [if_neg (fun q => z ((k_3 hk).1 q)), ev_ld (by omega) (by omega), hw, ky_0 hK z, gf_x0]
theorem pv_g0 : ∀ k, k < 2 → ∀ q, q < 3 → ∀ x : Fin 64, (nI x >>> ((4 - nI q * 2) &&& 31)) &&& 3 = pv k (BitVec.ofFin x) q := by decide +kernel
theorem pv_g3 : ∀ q, q < 6 → ∀ x : Fin 64, (nI x >>> ((5 - nI q) &&& 31)) &&& 1 = pv 3 (BitVec.ofFin x) q := by decide +kernel
theorem xor_z (x : Int32) : x ^^^ 0 = x := Int32.xor_zero
/-- the reference's row of bars -/
theorem g_row {k : Nat} {fm : Int32} {key : Gf} {w : Nat → Gf} {fw row : Nat → Int32} (mm : Nat) (hk : k < 4) (h2 : k ≠ 2) (hK : Ky k fm key) (hw : Rp (kn k) fw w) :
    ∃ row', (∀ K, im_X5_make_L50 (nI (kL k)) K 144 (nI k) (nI (kn k)) fm (nI (kR k)) 22 fw 5000 0 row = K row') ∧ Ly (kN k) (pl k) (dv k mm key w) (fr k) (kL k) row' := by
  obtain ⟨b1, b2, b3, b4, b5, b6, b7, b8, b9, b10, b11, b12, b13, b14, b15⟩ := kp k hk
  have hL := b13 h2
  obtain ⟨r, ⟨hr1, hr2⟩, e⟩ := lp_up (fun q i (s : Nat → Int32) => fun K => im_X5_make_L50 (nI (kL k)) K 144 (nI k) (nI (kn k)) fm (nI (kR k)) 22 fw q i s) (fun s => fun K => K s) (kL k)
    (fun i s => (∀ p, p < kn k * kS k → 2 + p < i → s (2 + p) = dv k mm key w p) ∧ ∀ j, j < i → fr k j ≠ -1 → s j = fr k j)
    (fun q s _ => by
      funext K
      rw [im_X5_make_L50, if_pos (nI_le (Nat.le_refl _) (by omega))])
    (fun q i s hi hs => by
      by_cases z : fr k i = -1
      · have hne : ¬ (i < 2 ∨ kL k ≤ i + 2) := fun y => fr_end k hk h2 i hi y z
        obtain ⟨p, rfl⟩ : ∃ p, i = 2 + p := ⟨i - 2, by omega⟩
        have hp : p < kn k * kS k := by omega
        refine ⟨upd s (2 + p) (dv k mm key w p), ⟨fun p' h1 h3 => ?_, fun j h1 h3 => ?_⟩, ?_⟩
        · by_cases y : p' = p
          · subst y; rw [up_s]
          · rw [up_n _ _ (by omega)]; exact hs.1 p' h1 (by omega)
        · by_cases y : j = 2 + p
          · subst y; exact absurd z h3
          · rw [up_n _ _ y]; exact hs.2 j (by omega) h3
        · funext K
          have hdv : dv k mm key w p = pv k (w (p / kS k) ^^^ ky k key (p / kS k)) (p % kS k) := by
            rw [dv, if_pos hp, tu, if_neg h2, xor_z]
          have hds : p / kS k < kn k := (Nat.div_lt_iff_lt_mul b5).2 hp
          have hms : p % kS k < kS k := Nat.mod_lt _ b5
          rw [im_X5_make_L50, if_neg (nI_ge hi (by omega)), ev_j1, fr_g k hk (2 + p) hi, ev_lt, ev_b1, if_pos z, show (2 : Int32) = nI 2 from rfl, pk_sub (by omega), Nat.add_sub_cancel_left]
          by_cases z3 : k = 3
          · subst z3
            rw [if_pos (by decide)]
            simp only [ev_lt]
            rw [show (6 : Int32) = nI 6 from rfl, pk_rem (by omega) (by omega) (by omega), pk_div (by omega) (by omega) (by omega)]
            show im_b1 (im_X5_signed (nI (p / 6)) _ _ _ _ _ _) _ = _
            rw [g_sig (s := p / 6) hk hK (hw _ hds) hds, ev_b1]
            show im_st 144 s (nI (2 + p)) ((nI (w (p / 6) ^^^ ky 3 key (p / 6)).toNat >>> ((5 - nI (p % 6)) &&& 31)) &&& 1) _ = _
            rw [show (nI (w (p / 6) ^^^ ky 3 key (p / 6)).toNat >>> ((5 - nI (p % 6)) &&& 31)) &&& 1 = dv 3 mm key w p from (pv_g3 (p % 6) hms (w (p / 6) ^^^ ky 3 key (p / 6)).toFin).trans hdv.symm, ev_st (by omega) (by omega), nI_1]
          · rw [if_neg (fun q => z3 ((k_3 hk).1 q))]
            have hS : kS k = 3 := by
              have : k = 0 ∨ k = 1 := by omega
              rcases this with rfl | rfl <;> rfl
            rw [hS] at hdv hds hms
            simp only [ev_lt]
            rw [show (3 : Int32) = nI 3 from rfl, pk_rem (by omega) (by omega) (by omega), pk_div (by omega) (by omega) (by omega), ev_ld (by omega) (by omega), hw _ hds]
            show im_st 144 s (nI (2 + p)) ((nI (w (p / 3)).toNat >>> ((4 - nI (p % 3) * 2) &&& 31)) &&& 3) _ = _
            rw [ky_0 hK z3, gf_x0] at hdv
            rw [show (nI (w (p / 3)).toNat >>> ((4 - nI (p % 3) * 2) &&& 31)) &&& 3 = dv k mm key w p from (pv_g0 k (by omega) (p % 3) hms (w (p / 3)).toFin).trans hdv.symm, ev_st (by omega) (by omega), nI_1]
      · refine ⟨upd s i (fr k i), ⟨fun p' h1 h3 => ?_, fun j h1 h3 => ?_⟩, ?_⟩
        · have hne : 2 + p' ≠ i := fun y => z (by rw [← y]; exact fr_mid k hk h2 p' h1)
          rw [up_n _ _ hne]; exact hs.1 p' h1 (by omega)
        · by_cases y : j = i
          · subst y; rw [up_s]
          · rw [up_n _ _ y]; exact hs.2 j (by omega) h3
        · funext K
          rw [im_X5_make_L50, if_neg (nI_ge hi (by omega)), ev_j1, fr_g k hk i hi, ev_lt, ev_b1, if_neg z, ev_b1]
          show im_st 144 s (nI i) (fr k i) _ = _
          rw [ev_st (by omega) (by omega), ev_lt, nI_1]) (kL k) 0 row 5000 (by omega) (by omega) ⟨fun p h1 h3 => by omega, fun j h1 => by omega⟩
  refine ⟨r, fun K => congrFun e K, fun p hp => ?_, fun i hi hne => ?_⟩
  · rw [b14 (by omega)] at hp
    rw [pl, if_neg h2]; exact hr1 p hp (by omega)
  · refine hr2 i hi (fr_end k hk h2 i hi ?_)
    rw [b14 (by omega)] at hne
    apply Classical.byContradiction
    intro y
    refine hne (i - 2) (by omega) ?_
    rw [pl, if_neg h2]; omega
/-- the reference's square -/
theorem one_m : ∀ b, b < 2 → (1 : Int32) - nI b = nI b ^^^ 1 := by decide
theorem g_paint {mm : Nat} {w : Nat → Gf} {fw sq : Nat → Int32} (hmm : mm < 4) (hw : Rp 16 fw w) :
    ∃ sq', im_X5_paint (nI mm) (nI 2) (nI 16) 144 22 sq fw = some sq' ∧ Ly 100 (pl 2) (dv 2 mm 0#6 w) (fr 2) 144 sq' := by
  obtain ⟨r1, hr1, e1⟩ := lp_up (fun q i (s : Nat → Int32) => fun K => im_X5_paint_L2 K (nI 2) (nI 16) 144 q i s) (fun s => fun K => K s) 144
    (fun i s => ∀ j, j < i → s j = fr 2 j)
    (fun q s _ => by
      funext K
      rw [im_X5_paint_L2, if_pos (by decide)])
    (fun q i s hi hs => ⟨upd s i (fr 2 i), fun j hj => by
      by_cases z : j = i
      · subst z; rw [up_s]
      · rw [up_n _ _ z]; exact hs j (by omega), by
      funext K
      rw [im_X5_paint_L2, if_neg (show ¬ (144 : Int32) ≤ nI i from nI_ge (b := 144) hi (by omega)), show im_X5_frame (nI i) (nI 2) (nI 16) = some (fr 2 i) from fr_g 2 (by omega) i hi, ev_b1, ev_st hi (by omega), ev_lt, nI_1]⟩) 144 0 sq 5000 (by omega) (by omega) (fun j hj => by omega)
  obtain ⟨r2, hr2, e2⟩ := lp_up (fun q p (s : Nat → Int32) => im_X5_paint_L28 144 (nI mm) 22 fw q p s) (fun s => some s) 100
    (fun p s => Ly p (pl 2) (dv 2 mm 0#6 w) (fr 2) 144 s)
    (fun q s _ => by
      show im_X5_paint_L28 144 (nI mm) 22 fw (q + 1) (nI 100) s = _
      rw [im_X5_paint_L28, if_pos (by decide)])
    (fun q p s hp hs => by
      have hL : pl 2 p < 144 := pl_L (k := 2) (by omega) hp
      refine ⟨upd s (pl 2 p) (dv 2 mm 0#6 w p), hs.step (fun p' hp' q => by have := pl_inj2 q; omega) rfl, ?_⟩
      show im_X5_paint_L28 144 (nI mm) 22 fw (q + 1) (nI p) s = im_X5_paint_L28 144 (nI mm) 22 fw q (nI (p + 1)) (upd s (pl 2 p) (dv 2 mm 0#6 w p))
      rw [im_X5_paint_L28, if_neg (show ¬ (100 : Int32) ≤ nI p from nI_ge (b := 100) hp (by omega)), ev_j2, (pl_sq p hp).2, ev_b1]
      by_cases z : p ≤ 95
      · rw [if_pos (show nI p ≤ 95 from nI_le (b := 95) z (by omega)), ev_lt, ev_lt, show (12 : Int32) = nI 12 from rfl, pk_rem (by omega) (by omega) (by omega), pk_div (by omega) (by omega) (by omega), (tu_sq mm hmm (pl 2 p) hL).2.1, ev_b1]
        have hwb : im_X5_wordBit (nI p) 22 fw = some (nI ((w (p / 6)).toNat / 2 ^ (5 - p % 6) % 2)) := by
          have := g_wbit (s := p / 6) (u := p % 6) hw (by omega) (by omega) (by omega)
          rwa [show 6 * (p / 6) + p % 6 = p by omega] at this
        have hdv : dv 2 mm 0#6 w p = nI ((w (p / 6)).toNat / 2 ^ (5 - p % 6) % 2) ^^^ tu 2 mm (pl 2 p) := by
          rw [dv, if_pos (show p < kn 2 * kS 2 from (by omega : p < 96))]
          show pv 2 (w (p / 6) ^^^ ky 2 0#6 (p / 6)) (p % 6) ^^^ _ = _
          rw [ky, show (if p / 6 < kn 2 - kR 2 then 0#6 else 0#6) = (0#6 : Gf) by split <;> rfl, gf_x0, pv]
          show nI ((w (p / 6)).toNat / 2 ^ (6 - (p % 6 + 1) * 1) % 2 ^ 1) ^^^ _ = _
          rw [show 6 - (p % 6 + 1) * 1 = 5 - p % 6 by omega, Nat.pow_one]
        rw [hwb, ev_b1, ev_b1, ev_lt]
        rcases (tu_sq mm hmm (pl 2 p) hL).2.2 with y | y
        · rw [if_pos y]
          show im_st 144 s (nI (pl 2 p)) _ _ = _
          rw [hdv, y, xor_z, ev_st hL (by omega), ev_lt, nI_1]
        · rw [if_neg (by rw [y]; decide)]
          show im_st 144 s (nI (pl 2 p)) _ _ = _
          rw [hdv, y, one_m _ (by omega), ev_st hL (by omega), ev_lt, nI_1]
      · rw [if_neg (show ¬ nI p ≤ 95 from nI_ge (a := 95) (by omega) (by omega)), ev_lt, show (96 : Int32) = nI 96 from rfl, pk_sub (by omega), (sg_ok mm hmm (p - 96) (by omega)).1, ev_b1]
        show im_st 144 s (nI (pl 2 p)) _ _ = _
        rw [ev_st hL (by omega), ev_lt, nI_1, dv, if_neg (show ¬ p < kn 2 * kS 2 from (by omega : ¬ p < 96))]) 100 0 r1 5000 (by omega) (by omega) ⟨fun p hp => by omega, fun i hi _ => hr1 i hi⟩
  refine ⟨r2, ?_, hr2⟩
  rw [im_X5_paint, ev_j1]
  exact (congrFun e1 _).trans e2
