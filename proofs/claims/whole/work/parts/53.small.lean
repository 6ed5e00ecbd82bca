theorem cmp_nn {x : Int64} (h : ¬ lg_cmp x 0 < 0) : ¬ x < 0 := by
  intro y
  apply h
  unfold lg_cmp
  rw [if_neg (fun z => Int64.lt_irrefl (Int64.lt_trans y z)), if_neg (fun z => by rw [z] at y; exact Int64.lt_irrefl y)]
  decide
theorem op_field {k : Nat} {th x1 : Int32} {x2 : Int64} {gv vl : Nat → Int64} {fwd fb hs : Nat → Int32} (hk : k < 4) (hwd : Wd k fwd) (hfb : Wd k fb) (hG : RG k gv hs vl) :
    ∃ kk gv' hs' vl', im_L_field x1 x2 (kF k) (kF k) gv fwd = some (kk, gv') ∧ im_X5_field x1 x2 th (nI (kF k)) 4 4 4 fb hs vl = some (kk, hs', vl') ∧ RG k gv' hs' vl' := by
  have hp := kp k hk
  rw [im_L_field, im_X4_field, im_X5_field, ev_j0, ev_j1]
  rcases pk_ix x1 (n := kF k) (by omega) with z | z | ⟨f, hf, rfl⟩
  · refine ⟨1, gv, hs, vl, ?_, ?_, hG⟩
    · rw [if_pos z]; rfl
    · rw [ev_j0, if_pos z]; exact if_neg (by decide)
  · refine ⟨1, gv, hs, vl, ?_, ?_, hG⟩
    · by_cases y : x1 < 0
      · rw [if_pos y]; rfl
      · rw [if_neg y, if_neg (Int32.not_lt.2 z)]; rfl
    · rw [ev_j0]
      by_cases y : x1 < 0
      · rw [if_pos y]; exact if_neg (by decide)
      · rw [if_neg y, if_neg (Int32.not_lt.2 z)]; exact if_neg (by decide)
  · rw [if_neg (nI_pos (by omega)), if_pos (nI_lt hf (by omega)), ev_j0, ev_j0, if_neg (nI_pos (by omega)), if_pos (nI_lt hf (by omega)), ev_j0, ev_lt, ev_lt]
    by_cases y : lg_cmp x2 0 < 0
    · refine ⟨2, gv, hs, vl, ?_, ?_, hG⟩
      · rw [if_pos y]; rfl
      · rw [if_pos y]; exact if_neg (by decide)
    · rw [if_neg y, if_neg y, ev_ld hf (by omega), ev_ld (by omega) (by omega), hwd f hf, hfb f hf, ev_lt, ev_lt, ev_lt, ev_lt]
      by_cases q : lg_cmp (x2 >>> ((nI (6 * km k f)).toInt64 &&& 63)) 0 = 0
      · refine ⟨0, vp_updL gv f x2, upd hs f 1, vp_updL vl f x2, ?_, ?_, fun g hg => ?_⟩
        · rw [if_pos q, ev_stL hf (by omega)]; rfl
        · rw [if_pos q]
          show (if (0 : Int32) = 0 then _ else _) = _
          rw [if_pos rfl, ev_stL (by omega) (by omega), ev_st (by omega) (by omega)]
        · by_cases e : g = f
          · subst e
            rw [up_s, pk_uLs, pk_uLs]
            obtain ⟨V, hV, hx⟩ := pk_lOf (cmp_nn y)
            exact Or.inr ⟨rfl, rfl, V, hV, hx⟩
          · rw [up_n _ _ e, pk_uLn e, pk_uLn e]; exact hG g hg
      · refine ⟨2, gv, hs, vl, ?_, ?_, hG⟩
        · rw [if_neg q]; rfl
        · rw [if_neg q]; exact if_neg (by decide)
theorem op_bar {k : Nat} {th x1 a sz : Int32} {md rw_ : Nat → Int32} {out : Nat → Int64} (hk : k < 4) (hM : RM k a sz md rw_) :
    ∃ kk out' b, im_L_bar x1 a (kL k) 1 md out = some (kk, out') ∧ im_X5_bar x1 th sz 144 rw_ = some (b, kk) ∧ (kk = 0 → out' 0 = b.toInt64) := by
  have hp := kp k hk
  rw [im_L_bar, im_X4_bar, im_X5_bar, ev_j0, ev_j1]
  rcases hM with ⟨h1, h2⟩ | ⟨h1, h2, h3⟩
  · refine ⟨1, out, 0, ?_, ?_, fun q => absurd q (by decide)⟩
    · rw [if_pos h1]; rfl
    · rw [ev_j0, h2]
      by_cases y : x1 < 0
      · rw [if_pos y]; exact if_neg (by decide)
      · rw [if_neg y, if_neg y]; exact if_neg (by decide)
  · have h0 : ¬ a = 0 := by rw [h1]; decide
    rw [if_neg h0, ev_j0, h2]
    rcases pk_ix x1 (n := kL k) (by omega) with z | z | ⟨i, hi, rfl⟩
    · refine ⟨1, out, 0, ?_, ?_, fun q => absurd q (by decide)⟩
      · rw [if_pos z]; rfl
      · rw [if_pos z]; exact if_neg (by decide)
    · refine ⟨1, out, 0, ?_, ?_, fun q => absurd q (by decide)⟩
      · by_cases y : x1 < 0
        · rw [if_pos y]; rfl
        · rw [if_neg y, if_neg (Int32.not_lt.2 z)]; rfl
      · by_cases y : x1 < 0
        · rw [if_pos y]; exact if_neg (by decide)
        · rw [if_neg y, if_neg (Int32.not_lt.2 z)]; exact if_neg (by decide)
    · refine ⟨0, vp_updL out 0 (md i).toInt64, rw_ i, ?_, ?_, fun _ => by rw [pk_uLs, h3 i hi]⟩
      · rw [if_neg (nI_pos (by omega)), if_pos (nI_lt hi (by omega)), ev_ld hi (by omega), ev_b2, if_pos rfl, ev_lt]
        exact ev_stL (n := 1) (i := 0) (by omega) (by omega) _ _ _
      · rw [if_neg (nI_pos (by omega)), if_pos (nI_lt hi (by omega))]
        show (if (0 : Int32) ≤ 0 then _ else _) = _
        rw [if_pos (by decide), ev_ld (by omega) (by omega)]
theorem op_read {k : Nat} {th x1 c m : Int32} {sn sr : Nat → Int32} (hk : k < 4) (hS : RS k c m sn sr) :
    ∃ kk c' m' sn' sr', im_L_read x1 c (nI (kH k)) 200 sn = some (kk, c', sn') ∧ im_X5_read x1 th (nI k) m 200 sr = some (m', kk, sr') ∧ RS k c' m' sn' sr' := by
  obtain ⟨c0, hc0, rfl, rfl, hsr⟩ := hS
  have h4 := kH4 k hk
  have hS : RS k (nI c0) (nI c0) sn sr := ⟨c0, hc0, rfl, rfl, hsr⟩
  have hmost : ∀ K : Int32 → Option (Int32 × Int32 × (Nat → Int32)), im_j1 K (fun K2 => im_j0 ((K2 (1 : Int32))) (fun K8 => if nI k = (2 : Int32) then (K8) else if nI k = (3 : Int32) then (K8) else (K2 (3 : Int32)))) = K (nI (kH k)) := by
    intro K
    rw [ev_j1, ev_j0]
    have : k = 0 ∨ k = 1 ∨ k = 2 ∨ k = 3 := by omega
    rcases this with rfl | rfl | rfl | rfl
    · rw [if_neg (by decide), if_neg (by decide)]; rfl
    · rw [if_neg (by decide), if_neg (by decide)]; rfl
    · rw [if_pos (by decide)]; rfl
    · rw [if_neg (by decide), if_pos (by decide)]; rfl
  rw [im_L_read, im_X4_read, im_X5_read, ev_j0]
  rw [hmost]
  rw [ev_j1, ev_j0]
  by_cases z : x1 < 0
  · refine ⟨1, nI c0, nI c0, sn, sr, ?_, ?_, hS⟩
    · rw [if_pos z]; rfl
    · rw [if_pos z]; exact if_neg (by decide)
  · by_cases y : x1 ≤ nI (kH k)
    · obtain ⟨x, hx, rfl⟩ := nI_of2 (n := kH k) (nI_toInt (by omega)) z y
      rw [if_neg z, if_pos y, if_neg z, if_pos y]
      by_cases q : c0 = 200
      · refine ⟨2, nI c0, nI c0, sn, sr, ?_, ?_, hS⟩
        · rw [if_neg (show ¬ nI c0 < (200 : Int32) from nI_nlt (b := 200) (by omega) (by omega))]; rfl
        · rw [if_pos (show nI c0 = (200 : Int32) by rw [q]; rfl)]; exact if_neg (by decide)
      · refine ⟨0, nI (c0 + 1), nI (c0 + 1), upd sn c0 (nI x), upd sr c0 (nI x), ?_, ?_, c0 + 1, by omega, rfl, rfl, fun i hi => ?_⟩
        · rw [if_pos (show nI c0 < (200 : Int32) from nI_lt (b := 200) (by omega) (by omega)), ev_st (by omega) (by omega), ev_lt, nI_1]; rfl
        · rw [if_neg (show ¬ nI c0 = (200 : Int32) from fun e => q ((nI_eq (b := 200) (by omega) (by omega)).1 e))]
          show (if (0 : Int32) = 0 then _ else _) = _
          rw [if_pos rfl, ev_st (by omega) (by omega), ev_lt, nI_1]
        · by_cases e : i = c0
          · subst e; rw [up_s, up_s]; exact ⟨rfl, Or.inr ⟨x, hx, rfl⟩⟩
          · rw [up_n _ _ e, up_n _ _ e]; exact hsr i (by omega)
    · refine ⟨1, nI c0, nI c0, sn, sr, ?_, ?_, hS⟩
      · rw [if_neg z, if_neg y]; rfl
      · rw [if_neg z, if_neg y]; exact if_neg (by decide)
theorem op_erased {k : Nat} {th c m : Int32} {sn sr : Nat → Int32} (hS : RS k c m sn sr) :
    ∃ kk c' m' sn' sr', im_L_erased c 200 sn = some (kk, c', sn') ∧ im_X5_erased th m 200 sr = some (m', kk, sr') ∧ RS k c' m' sn' sr' := by
  obtain ⟨c0, hc0, rfl, rfl, hsr⟩ := hS
  rw [im_L_erased, im_X4_erased, im_X5_erased, ev_j1]
  by_cases q : c0 = 200
  · refine ⟨1, nI c0, nI c0, sn, sr, ?_, ?_, ⟨c0, hc0, rfl, rfl, hsr⟩⟩
    · rw [if_neg (show ¬ nI c0 < (200 : Int32) from nI_nlt (b := 200) (by omega) (by omega))]; rfl
    · rw [if_pos (show nI c0 = (200 : Int32) by rw [q]; rfl)]; exact if_neg (by decide)
  · refine ⟨0, nI (c0 + 1), nI (c0 + 1), upd sn c0 (-1), upd sr c0 (-1), ?_, ?_, c0 + 1, by omega, rfl, rfl, fun i hi => ?_⟩
    · rw [if_pos (show nI c0 < (200 : Int32) from nI_lt (b := 200) (by omega) (by omega)), ev_st (by omega) (by omega), ev_lt, nI_1]; rfl
    · rw [if_neg (show ¬ nI c0 = (200 : Int32) from fun e => q ((nI_eq (b := 200) (by omega) (by omega)).1 e))]
      show (if (0 : Int32) = 0 then _ else _) = _
      rw [if_pos rfl, ev_st (by omega) (by omega), ev_lt, nI_1]
    · by_cases e : i = c0
      · subst e; rw [up_s, up_s]; exact ⟨rfl, Or.inl rfl⟩
      · rw [up_n _ _ e, up_n _ _ e]; exact hsr i (by omega)
theorem op_value {k : Nat} {th x1 rt : Int32} {td rd out : Nat → Int64} (hk : k < 4) (hT : RT k rt td rd) :
    ∃ kk out' v, im_L_value x1 (kF k) 1 td out = some (kk, out') ∧ im_X5_value x1 th (nI (kF k)) rt 4 rd = some (v, kk) ∧ (kk = 0 → out' 0 = v) := by
  have hp := kp k hk
  rw [im_L_value, im_X4_value, im_X5_value, ev_j0, ev_j1, ev_j0]
  rcases pk_ix x1 (n := kF k) (by omega) with z | z | ⟨f, hf, rfl⟩
  · refine ⟨1, out, 0, ?_, ?_, fun q => absurd q (by decide)⟩
    · rw [if_pos z]; rfl
    · rw [if_pos z]; exact if_neg (by decide)
  · refine ⟨1, out, 0, ?_, ?_, fun q => absurd q (by decide)⟩
    · by_cases y : x1 < 0
      · rw [if_pos y]; rfl
      · rw [if_neg y, if_neg (Int32.not_lt.2 z)]; rfl
    · by_cases y : x1 < 0
      · rw [if_pos y]; exact if_neg (by decide)
      · rw [if_neg y, if_neg (Int32.not_lt.2 z)]; exact if_neg (by decide)
  · refine ⟨0, vp_updL out 0 (td f), td f, ?_, ?_, fun _ => pk_uLs⟩
    · rw [if_neg (nI_pos (by omega)), if_pos (nI_lt hf (by omega)), ev_ld hf (by omega), ev_b2, if_pos rfl]
      exact ev_stL (n := 1) (i := 0) (by omega) (by omega) _ _ _
    · rw [if_neg (nI_pos (by omega)), if_pos (nI_lt hf (by omega))]
      show (if (0 : Int32) ≤ 0 then _ else _) = _
      rw [if_pos (by decide)]
      rcases hT with ⟨h1, h2⟩ | ⟨h1, h2⟩
      · rw [if_pos h1, h2 f hf]
      · rw [if_neg (by rw [h1]; decide), ev_ld (by omega) (by omega), h2 f hf]
theorem op_over {th x1 x2 : Int32} {out : Nat → Int64} : ∃ kk out' v, im_L_over x1 x2 1 out = some (kk, out') ∧ im_X5_over x1 x2 th = some (v, kk) ∧ (kk = 0 → out' 0 = v.toInt64) := by
  rw [im_L_over, im_X4_over, im_X5_over, ev_j1]
  obtain ⟨i, hi, ei⟩ := pk_andE x1 (m := 63) 6 (by decide)
  obtain ⟨j, hj, ej⟩ := pk_andE x2 (m := 63) 6 (by decide)
  simp only [ev_lt]
  rw [ei, ej]
  have gi : nI i = Gi (BitVec.ofNat 6 i) := by rw [Gi_of, Nat.mod_eq_of_lt hi]
  have gj : nI j = Gi (BitVec.ofNat 6 j) := by rw [Gi_of, Nat.mod_eq_of_lt hj]
  by_cases z : nI j = 0
  · refine ⟨1, out, 0, ?_, ?_, fun q => absurd q (by decide)⟩
    · rw [if_pos z]; rfl
    · rw [if_pos z, if_neg (by decide)]
  · have hne : BitVec.ofNat 6 j ≠ 0#6 := fun q => z (by rw [gj, q]; rfl)
    refine ⟨0, vp_updL out 0 (Gi (gf_m (BitVec.ofNat 6 i) (gf_i (BitVec.ofNat 6 j)))).toInt64, Gi (gf_m (BitVec.ofNat 6 i) (gf_i (BitVec.ofNat 6 j))), ?_, ?_, fun _ => pk_uLs⟩
    · rw [if_neg z, gi, gj, ar_inv, ev_b1, ar_prod, ev_b1, ev_b2, if_pos rfl]
      exact ev_stL (n := 1) (i := 0) (by omega) (by omega) _ _ _
    · rw [if_neg z, if_pos (by decide), gi, gj, ar_minv _ hne, ev_b1, ar_times, ev_b1]
