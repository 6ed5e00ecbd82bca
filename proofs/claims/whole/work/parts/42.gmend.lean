/-- the corrections are laid on -/
theorem g_apply {n R e v : Nat} {fl fp fw : Nat → Int32} {P : Nat → Nat} {D w : Nat → Gf} (hn : n ≤ 22) (hR : R ≤ 8) (hm : e + v ≤ R) (hw : Rp n fw w) (hP : ∀ c, c < e + v → fp c = nI (P c) ∧ P c < n) (hD : ∀ c, c < e + v → fl (9 * c + (e + v)) = Gi (D c)) :
    ∃ fw', im_X5_mend_L99 (nI e) (nI v) fl fp 72 8 22 5000 (nI e) 0 fw = some (nI (e + gf_c (e + v) (fun c => decide (e ≤ c) && D c != 0#6)), fl, fp, fw') ∧ Rp n fw' (fun i => w i ^^^ sp (e + v) P D i) := by
  obtain ⟨s, ⟨hs1, hs2⟩, e1⟩ := lp_up (fun q k (s : Int32 × (Nat → Int32)) => im_X5_mend_L99 (nI e) (nI v) fl fp 72 8 22 q s.1 k s.2) (fun s => some (s.1, fl, fp, s.2)) (e + v)
    (fun k s => s.1 = nI (e + gf_c k (fun c => decide (e ≤ c) && D c != 0#6)) ∧ Rp n s.2 (fun i => w i ^^^ sp k P D i))
    (fun q s _ => by
      show im_X5_mend_L99 (nI e) (nI v) fl fp 72 8 22 (q + 1) s.1 (nI (e + v)) s.2 = _
      rw [im_X5_mend_L99, ev_lt, nI_add, if_pos (nI_le (Nat.le_refl _) (by omega))])
    (fun q k s hk hs => by
      obtain ⟨h1, h2⟩ := hs
      obtain ⟨hpk, hpn⟩ := hP k hk
      have hr : Rp n (upd s.2 (P k) (Gi ((w (P k) ^^^ sp k P D (P k)) ^^^ D k))) (fun i => w i ^^^ sp (k + 1) P D i) := by
        refine (Rp.up h2 _).congr (fun i hi => ?_)
        show (if i = P k then _ else _) = w i ^^^ (sp k P D i ^^^ if P k = i then D k else 0#6)
        by_cases z : i = P k
        · subst z; rw [if_pos rfl, if_pos rfl, BitVec.xor_assoc]
        · rw [if_neg z, if_neg (fun q => z q.symm), gf_x0]
      refine ⟨(nI (e + gf_c (k + 1) (fun c => decide (e ≤ c) && D c != 0#6)), upd s.2 (P k) (Gi ((w (P k) ^^^ sp k P D (P k)) ^^^ D k))), ⟨rfl, hr⟩, ?_⟩
      show im_X5_mend_L99 (nI e) (nI v) fl fp 72 8 22 (q + 1) s.1 (nI k) s.2 = im_X5_mend_L99 (nI e) (nI v) fl fp 72 8 22 q (nI (e + gf_c (k + 1) (fun c => decide (e ≤ c) && D c != 0#6))) (nI (k + 1)) (upd s.2 (P k) (Gi ((w (P k) ^^^ sp k P D (P k)) ^^^ D k)))
      rw [im_X5_mend_L99, ev_lt, nI_add, if_neg (nI_ge hk (by omega)), ev_j2, ev_j1]
      simp only [ev_lt]
      rw [show (9 : Int32) = nI 9 from rfl, pk_mul, nI_add, nI_add, ev_ld (by omega) (by omega), Nat.add_assoc, hD k hk, ev_ld (by omega) (by omega), hpk, ev_ld (by omega) (by omega), hpk, ev_ld (by omega) (by omega), h2 (P k) hpn, Gi_xor, ev_st (by omega) (by omega), nI_1, h1]
      by_cases z : k < e
      · rw [if_pos (nI_lt z (by omega)), gf_c, show (decide (e ≤ k) && D k != 0#6) = false by rw [decide_eq_false (by omega)]; rfl]
        rfl
      · rw [if_neg (nI_nlt (by omega) (by omega))]
        by_cases y : D k = 0#6
        · rw [if_pos (Gi_z.2 y), gf_c, show (decide (e ≤ k) && D k != 0#6) = false by rw [y]; simp]
          rfl
        · rw [if_neg (fun q => y (Gi_z.1 q)), gf_c, show (decide (e ≤ k) && D k != 0#6) = true by simp [y]; omega, nI_1]
          rfl) (e + v) 0 (nI e, fw) 5000 (by omega) (by omega) ⟨rfl, hw.congr (fun i _ => (gf_x0 _).symm)⟩
  refine ⟨s.2, ?_, hs2⟩
  rw [← hs1]
  exact e1
/-- a solution at places is a near word -/
theorem sol_near {n R e v : Nat} {gone : Nat → Bool} {P : Nat → Nat} {D w : Nat → Gf} (he : gf_c n gone = e) (h2 : 2 * v + e ≤ R) (hPl : Pl n e v gone P) (hS : Sy n R (e + v) P w D) :
    Nr n R w gone (fun i => w i ^^^ sp (e + v) P D i) ∧ wr n w gone (fun i => w i ^^^ sp (e + v) P D i) = gf_c (e + v) (fun c => decide (e ≤ c) && D c != 0#6) := by
  have hlt : ∀ c, c < e + v → P c < n := fun c hc => pl_lt hPl hc
  have hwr : wr n w gone (fun i => w i ^^^ sp (e + v) P D i) = gf_c (e + v) (fun c => decide (e ≤ c) && D c != 0#6) := by
    rw [← hit_c (n := n) (P := P) (e + v) hlt (pl_inj hPl), wr]
    refine gf_c_congr (fun i hi => ?_)
    rw [← BitVec.xor_assoc, gf_xs, gf_0x, Bool.eq_iff_iff, hit_iff, Bool.and_eq_true, Bool.not_eq_true', bne_iff_ne]
    constructor
    · rintro ⟨g1, g2⟩
      have : ∃ c, c < e + v ∧ P c = i := by
        apply Classical.byContradiction
        intro z
        exact g2 (sp_off (fun c hc q => z ⟨c, hc, q⟩))
      obtain ⟨c, c1, c2⟩ := this
      refine ⟨c, c1, ?_, c2⟩
      rw [← c2, sp_at (pl_inj hPl) c1] at g2
      rw [Bool.and_eq_true, bne_iff_ne, decide_eq_true_iff]
      refine ⟨?_, g2⟩
      apply Classical.byContradiction
      intro z
      have := (hPl.1.1 c (by omega)).2
      rw [c2, g1] at this
      cases this
    · rintro ⟨c, c1, c2, c3⟩
      rw [Bool.and_eq_true, bne_iff_ne, decide_eq_true_iff] at c2
      subst c3
      exact ⟨(hPl.2.1 c c2.1 c1).2, by rw [sp_at (pl_inj hPl) c1]; exact c2.2⟩
  refine ⟨⟨fun j hj => ?_, ?_⟩, hwr⟩
  · rw [bm_S_add, sp_sum hlt, hS j hj, gf_xs]
  · have h3 : gf_c (e + v) (fun c => decide (e ≤ c) && D c != 0#6) ≤ v := by
      have : ∀ k, gf_c (e + k) (fun c => decide (e ≤ c) && D c != 0#6) ≤ k := by
        intro k
        induction k with
        | zero =>
          rw [Nat.add_zero, gf_c_congr (q := fun _ => false) (fun i hi => by rw [decide_eq_false (by omega)]; rfl), gf_c_0]
          exact Nat.le_refl 0
        | succ k ih =>
          rw [← Nat.add_assoc, gf_c]
          split <;> omega
      exact this v
    rw [hwr]
    omega
/-- a near word is a solution at some places -/
theorem near_sol {n R e v : Nat} {gone : Nat → Bool} {P : Nat → Nat} {c w : Nat → Gf} (he : gf_c n gone = e) (hv : v = (R - e) / 2) (hve : v ≤ n - e) (hG : Ga n e gone P) (hN : Nr n R w gone c) :
    ∃ T, (∀ k, k < e → T k = P k) ∧ Vs n gone e (e + v) T ∧ ∃ d, Sy n R (e + v) T w d := by
  have hnot : ∀ m, gf_c m (fun i => !gone i) = m - gf_c m gone := by
    intro m
    induction m with
    | zero => rfl
    | succ m ih =>
      have := gf_c_max m gone
      rw [gf_c, gf_c, ih]
      cases gone m <;> simp <;> omega
  have hN2 := hN.2
  have hwr : gf_c n (fun i => !gone i && (w i ^^^ c i) != 0#6) = wr n w gone c := rfl
  obtain ⟨r, r1, r2, r3⟩ := c_mid n v (fun i => !gone i && (w i ^^^ c i) != 0#6) (fun i => !gone i) (fun i _ h => (Bool.and_eq_true _ _ ▸ h : _ ∧ _).1) (by rw [hwr]; omega) (by rw [hnot]; omega)
  obtain ⟨T, t1, t2, t3⟩ := c_enum n r
  rw [r3] at t1 t2 t3
  have hV : Vs n gone e (e + v) (fun k => if k < e then P k else T (k - e)) := by
    refine ⟨fun k k1 k2 => ?_, fun k k1 k2 => ?_⟩
    · simp only [show ¬ k < e by omega, if_false]
      have h1 := t1 (k - e) (by omega)
      have h2 := r2 _ h1.1 h1.2
      refine ⟨h1.1, ?_⟩
      simpa using h2
    · simp only [show ¬ k < e by omega, show ¬ k + 1 < e by omega, if_false]
      have := t2 (k - e) (by omega)
      rwa [show k + 1 - e = k - e + 1 by omega]
  have hPl : Pl n e v gone (fun k => if k < e then P k else T (k - e)) := by
    refine ⟨⟨fun k hk => by simp only [hk, if_true]; exact hG.1 k hk, fun k hk => by simp only [hk, show k < e by omega, if_true]; exact hG.2.1 k hk, fun i hi hg => ?_⟩, hV⟩
    obtain ⟨k, k1, k2⟩ := hG.2.2 i hi hg
    exact ⟨k, k1, by simp only [k1, if_true]; exact k2⟩
  refine ⟨fun k => if k < e then P k else T (k - e), fun k hk => if_pos hk, hV, fun k => w ((fun k => if k < e then P k else T (k - e)) k) ^^^ c ((fun k => if k < e then P k else T (k - e)) k), ?_⟩
  intro j hj
  generalize hT' : (fun k => if k < e then P k else T (k - e)) = T' at hPl hV
  rw [← sp_sum (D := fun k => w (T' k) ^^^ c (T' k)) (fun k hk => pl_lt hPl hk)]
  have h1 : bm_S n (Xp n) (sp (e + v) T' (fun k => w (T' k) ^^^ c (T' k))) j = bm_S n (Xp n) (fun i => w i ^^^ c i) j := by
    refine bm_S_congr (fun i hi => ?_) j
    by_cases z : ∃ k, k < e + v ∧ T' k = i
    · obtain ⟨k, k1, k2⟩ := z
      subst k2
      rw [sp_at (pl_inj hPl) k1]
    · rw [sp_off (fun k hk q => z ⟨k, hk, q⟩)]
      apply Classical.byContradiction
      intro y
      apply z
      cases hg : gone i with
      | true =>
        obtain ⟨k, k1, k2⟩ := hPl.1.2.2 i hi hg
        exact ⟨k, by omega, k2⟩
      | false =>
        have hri := r1 i hi (by rw [hg]; simp only [Bool.not_false, Bool.true_and, bne_iff_ne]; exact fun q => y q.symm)
        obtain ⟨k, k1, k2⟩ := t3 i hi hri
        refine ⟨e + k, by omega, ?_⟩
        rw [← hT']
        simp only [show ¬ e + k < e by omega, if_false, show e + k - e = k by omega]
        exact k2
  rw [h1, bm_S_add, hN.1 j hj, gf_x0]
/-- the reference's mend -/
theorem g_mend {n R : Nat} {fg fl fp fw : Nat → Int32} {w : Nat → Gf} {gone : Nat → Bool} (hn : n ≤ 22) (hR : R ≤ 8) (hRn : R ≤ n) (hw : Rp n fw w) (hf : Lp n fg gone) :
    ∃ (r : Int32) (fl' fp' fw' : Nat → Int32), im_X5_mend (nI R) (nI n) 22 72 8 22 fg fl fp fw = some (r, fl', fp', fw') ∧
      (∃ z, Rp n fw' z) ∧ (∀ c, Nr n R w gone c → r = nI (wr n w gone c + gf_c n gone) ∧ Rp n fw' c) ∧ ((∀ c, ¬ Nr n R w gone c) → r = -1) := by
  have hmx := gf_c_max n gone
  by_cases hle : gf_c n gone ≤ R
  · obtain ⟨v, hv⟩ : ∃ v, v = (R - gf_c n gone) / 2 := ⟨_, rfl⟩
    obtain ⟨f4, P, b1, b2, b3, b4, b5⟩ := g_begin (fp := fp) (v := v) hf hn (by omega) (by omega)
    have hPl : Pl n (gf_c n gone) v gone P := ⟨b3, b4⟩
    obtain ⟨r6, f7, s1, s2⟩ := g_solve (fl := fl) (fp := f4) (fw := fw) (pl := P) (m := gf_c n gone + v) hR (by omega) (fun c hc => ⟨b2 c hc, pl_lt hPl hc⟩) (pl_inj hPl) hn hw
    have hcd := cd_max (lo := gf_c n gone) (k := v) (P := P) (by omega) (fun c c1 c2 => by have := (b4.1 c c1 c2).1; omega)
    obtain ⟨r8, f9, f10, l1, l2⟩ := g_search (e := gf_c n gone) (v := v) hf hn hR (by omega) (by omega) hw (234256 - cdz (gf_c n gone) P v) 300000 r6 f7 f4 P (by omega) (by omega) b2 hPl s2 (fun T hT hV hL => absurd (b5 T hV) (fun hLe => lx_irr hL hLe))
    have hrun : ∀ (r : Int32) (x : (Nat → Int32) × (Nat → Int32) × (Nat → Int32)), (if r8 = 0 then (some ((-1 : Int32), f9, f10, fw)) else (im_X5_mend_L99 (nI (gf_c n gone)) (nI v) f9 f10 72 8 22 5000 (nI (gf_c n gone)) (0 : Int32) fw)) = some (r, x) → im_X5_mend (nI R) (nI n) 22 72 8 22 fg fl fp fw = some (r, x) := by
      intro r x hx
      rw [im_X5_mend, g_lost hf hn, ev_b1, if_pos (nI_le hle (by omega)), ev_j1]
      simp only [ev_lt]
      rw [pk_sub hle, show (2 : Int32) = nI 2 from rfl, pk_div (by omega) (by omega) (by omega), ← hv, pk_sub hmx, if_pos (nI_le (by omega) (by omega)), b1, ev_b1, nI_add, s1, ev_b2, ev_j3, l1]
      exact hx
    rcases l2 with ⟨hr8, P', D, p1, p2, p3, p4⟩ | ⟨hr8, hno⟩
    · obtain ⟨fw', a1, a2⟩ := g_apply (n := n) (R := R) (e := gf_c n gone) (v := v) (fl := f9) (fp := f10) (P := P') (D := D) hn hR (by omega) hw (fun c hc => ⟨p1 c hc, pl_lt p2 hc⟩) p3
      obtain ⟨n1, n2⟩ := sol_near (e := gf_c n gone) (v := v) rfl (by omega) p2 p4
      refine ⟨_, _, _, _, hrun _ _ ((if_neg (by rw [hr8]; decide)).trans a1), ⟨_, a2⟩, fun c hc => ?_, fun hno => absurd n1 (hno _)⟩
      have hu := nr_uniq hn hc n1
      refine ⟨?_, a2.congr (fun i hi => (hu i hi).symm)⟩
      rw [← n2, Nat.add_comm, show wr n w gone c = wr n w gone (fun i => w i ^^^ sp (gf_c n gone + v) P' D i) from gf_c_congr (fun i hi => by rw [hu i hi])]
    · refine ⟨_, _, _, _, hrun _ _ (if_pos hr8), ⟨_, hw⟩, fun c hc => ?_, fun _ => rfl⟩
      obtain ⟨T, t1, t2, d, t3⟩ := near_sol (P := P) rfl hv (by omega) b3 hc
      exact absurd t3 (hno T t1 t2 d)
  · refine ⟨-1, fl, fp, fw, ?_, ⟨w, hw⟩, fun c hc => absurd hc.2 (by omega), fun _ => rfl⟩
    rw [im_X5_mend, g_lost hf hn, ev_b1, if_neg (nI_ge (by omega) (by omega))]
