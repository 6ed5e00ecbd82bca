/-! Gauss' elimination: m unknowns, R equations, column m the right sides. -/
def So (R m : Nat) (M : Nat → Nat → Gf) (d : Nat → Gf) (t : Gf) : Prop := ∀ j, j < R → gf_s m (fun c => gf_m (M j c) (d c)) = gf_m t (M j m)
def gs_sw (M : Nat → Nat → Gf) (a k : Nat) : Nat → Nat → Gf := fun j => if j = a then M k else if j = k then M a else M j
def gs_sc (M : Nat → Nat → Gf) (k : Nat) (b : Gf) : Nat → Nat → Gf := fun j c => if j = k then gf_m (M k c) b else M j c
def gs_f (M : Nat → Nat → Gf) (k j : Nat) : Gf := if j = k then 0#6 else M j k
def gs_el (M : Nat → Nat → Gf) (k : Nat) : Nat → Nat → Gf := fun j c => M j c ^^^ gf_m (gs_f M k j) (M k c)
theorem so_sw {R m a k : Nat} {M : Nat → Nat → Gf} (ha : a < R) (hk : k < R) (d : Nat → Gf) (t : Gf) : So R m (gs_sw M a k) d t ↔ So R m M d t := by
  constructor
  · intro h j hj
    by_cases e1 : j = a
    · have := h k hk
      unfold gs_sw at this
      by_cases e2 : k = a
      · rw [if_pos e2, e2] at this; rw [e1]; exact this
      · rw [if_neg e2, if_pos rfl] at this; rw [e1]; exact this
    · by_cases e2 : j = k
      · have := h a ha
        unfold gs_sw at this
        rw [if_pos rfl] at this; rw [e2]; exact this
      · have := h j hj
        unfold gs_sw at this
        rw [if_neg e1, if_neg e2] at this; exact this
  · intro h j hj
    unfold gs_sw
    by_cases e1 : j = a
    · rw [if_pos e1]; exact h k hk
    · rw [if_neg e1]
      by_cases e2 : j = k
      · rw [if_pos e2]; exact h a ha
      · rw [if_neg e2]; exact h j hj
theorem so_row (m : Nat) (x d : Nat → Gf) (b : Gf) : gf_s m (fun c => gf_m (gf_m (x c) b) (d c)) = gf_m b (gf_s m (fun c => gf_m (x c) (d c))) := by
  rw [← gf_s_m]
  exact gf_s_congr (fun c _ => by rw [gf_m_comm (x c) b, gf_m_assoc])
theorem so_sc {R m k : Nat} {M : Nat → Nat → Gf} {b : Gf} (hk : k < R) (hb : b ≠ 0#6) (d : Nat → Gf) (t : Gf) : So R m (gs_sc M k b) d t ↔ So R m M d t := by
  constructor
  · intro h j hj
    have := h j hj
    unfold gs_sc at this
    by_cases e : j = k
    · subst e
      simp only [if_true] at this
      rw [so_row, gf_m_comm (M j m) b, gf_m_l t b] at this
      exact gf_cancel hb this
    · simp only [e, if_false] at this; exact this
  · intro h j hj
    unfold gs_sc
    by_cases e : j = k
    · subst e
      simp only [if_true]
      rw [so_row, h j hj, gf_m_comm (M j m) b, gf_m_l t b]
    · simp only [e, if_false]; exact h j hj
theorem so_lin (m : Nat) (x y d : Nat → Gf) (f : Gf) : gf_s m (fun c => gf_m (x c ^^^ gf_m f (y c)) (d c)) = gf_s m (fun c => gf_m (x c) (d c)) ^^^ gf_m f (gf_s m (fun c => gf_m (y c) (d c))) := by
  rw [← gf_s_m, ← gf_s_add]
  exact gf_s_congr (fun c _ => by rw [gf_m_addl, gf_m_assoc])
theorem so_el {R m k : Nat} {M : Nat → Nat → Gf} (hk : k < R) (d : Nat → Gf) (t : Gf) : So R m (gs_el M k) d t ↔ So R m M d t := by
  have hkk : ∀ c, gs_el M k k c = M k c := fun c => by unfold gs_el gs_f; rw [if_pos rfl, gf_0_m, gf_x0]
  constructor
  · intro h
    have h1 : gf_s m (fun c => gf_m (M k c) (d c)) = gf_m t (M k m) := by
      have := h k hk
      rw [hkk] at this
      rw [← this]
      exact gf_s_congr (fun c _ => by rw [hkk])
    intro j hj
    have := h j hj
    unfold gs_el at this
    rw [so_lin, h1, gf_m_addr, gf_m_l t] at this
    have e : gf_s m (fun c => gf_m (M j c) (d c)) ^^^ gf_m (gs_f M k j) (gf_m t (M k m)) ^^^ gf_m (gs_f M k j) (gf_m t (M k m)) = gf_m t (M j m) ^^^ gf_m (gs_f M k j) (gf_m t (M k m)) ^^^ gf_m (gs_f M k j) (gf_m t (M k m)) := by rw [this]
    rwa [gf_xx, gf_xx] at e
  · intro h j hj
    unfold gs_el
    rw [so_lin, h k hk, h j hj, gf_m_addr, gf_m_l t]
/-- the columns ahead of k are unit columns -/
def Un (R k : Nat) (M : Nat → Nat → Gf) : Prop := ∀ j c, j < R → c < k → M j c = if j = c then 1#6 else 0#6
theorem un_pivot {R m k : Nat} {M : Nat → Nat → Gf} (hu : Un R k M) (hk : k < m) (hmR : m ≤ R) (hind : ∀ d, So R m M d 0#6 → ∀ c, c < m → d c = 0#6) : ∃ a, k ≤ a ∧ a < R ∧ M a k ≠ 0#6 := by
  apply Classical.byContradiction
  intro hno
  have hz : ∀ j, k ≤ j → j < R → M j k = 0#6 := fun j h1 h2 => by
    apply Classical.byContradiction
    intro q
    exact hno ⟨j, h1, h2, q⟩
  have := hind (fun c => if c < k then M c k else if c = k then 1#6 else 0#6) (fun j hj => by
    rw [gf_0_m]
    have e1 : gf_s m (fun c => gf_m (M j c) (if c < k then M c k else if c = k then 1#6 else 0#6)) = gf_s (k + 1) (fun c => gf_m (M j c) (if c < k then M c k else if c = k then 1#6 else 0#6)) := gf_s_more (fun c h1 h2 => by
      rw [if_neg (by omega), if_neg (by omega), gf_m_0]) (by omega)
    rw [e1, gf_s, if_neg (by omega), if_pos rfl, gf_m_1]
    by_cases hjk : j < k
    · rw [gf_s_one (i0 := j) hjk (fun c hc q => by rw [hu j c hj hc, if_neg (fun z => q z.symm), gf_0_m]), hu j j hj hjk, if_pos rfl, if_pos hjk, gf_1_m]
      exact gf_xs _
    · rw [gf_s_zero (fun c hc => by rw [hu j c hj hc, if_neg (by omega), gf_0_m]), hz j (by omega) hj]
      exact gf_xs _) k hk
  simp at this
theorem un_step {R m k a : Nat} {M : Nat → Nat → Gf} (hu : Un R k M) (hka : k ≤ a) (ha : a < R) (hp : M a k ≠ 0#6) : Un R (k + 1) (gs_el (gs_sc (gs_sw M a k) k (gf_i (gs_sw M a k k k))) k) := by
  have hkR : k < R := by omega
  have hswk : gs_sw M a k k = M a := by
    unfold gs_sw
    by_cases e : k = a
    · rw [if_pos e, e]
    · rw [if_neg e, if_pos rfl]
  have hu1 : ∀ j c, j < R → c < k → gs_sw M a k j c = if j = c then 1#6 else 0#6 := by
    intro j c hj hc
    unfold gs_sw
    by_cases e1 : j = a
    · rw [if_pos e1, hu k c hkR hc, if_neg (by omega), if_neg (by omega)]
    · rw [if_neg e1]
      by_cases e2 : j = k
      · rw [if_pos e2, hu a c ha hc, if_neg (by omega), if_neg (by omega)]
      · rw [if_neg e2, hu j c hj hc]
  have hsck : ∀ c, gs_sc (gs_sw M a k) k (gf_i (gs_sw M a k k k)) k c = gf_m (M a c) (gf_i (M a k)) := fun c => by unfold gs_sc; rw [if_pos rfl, hswk]
  have hscj : ∀ j c, j ≠ k → gs_sc (gs_sw M a k) k (gf_i (gs_sw M a k k k)) j c = gs_sw M a k j c := fun j c q => by unfold gs_sc; rw [if_neg q]
  intro j c hj hc
  unfold gs_el gs_f
  by_cases ej : j = k
  · subst ej
    rw [if_pos rfl, gf_0_m, gf_x0, hsck]
    by_cases ec : c = j
    · subst ec; rw [if_pos rfl]; exact gf_m_i _ hp
    · rw [hu a c ha (by omega), if_neg (by omega), gf_0_m, if_neg (fun z => ec z.symm)]
  · rw [if_neg ej, hscj j k ej, hscj j c ej, hsck]
    by_cases ec : c = k
    · subst ec
      rw [gf_m_i _ hp, gf_m_1, if_neg ej]; exact gf_xs _
    · rw [hu a c ha (by omega), if_neg (by omega), gf_0_m, gf_m_0, gf_x0, hu1 j c hj (by omega)]
/-! the reference's rows -/
def Lm (R m : Nat) (f : Nat → Int32) (M : Nat → Nat → Gf) : Prop := ∀ j c, j < R → c ≤ m → f (9 * j + c) = Gi (M j c)
theorem g_exch {R m a k : Nat} {f : Nat → Int32} {M : Nat → Nat → Gf} (hf : Lm R m f M) (hR : R ≤ 8) (hm : m ≤ 8) (ha : a < R) (hk : k < R) :
    ∃ f', im_X5_exchange (nI a) (nI k) 72 f = some f' ∧ Lm R m f' (gs_sw M a k) := by
  obtain ⟨s, hs, e⟩ := lp_up (fun q c (s : Nat → Int32) => im_X5_exchange_L2 (nI a) 72 (nI k) q c s) (fun s => some s) 9
    (fun c s => ∀ j c', j < 8 → c' < 9 → s (9 * j + c') = if c' < c then (if j = a then f (9 * k + c') else if j = k then f (9 * a + c') else f (9 * j + c')) else f (9 * j + c'))
    (fun q s _ => by
      show im_X5_exchange_L2 (nI a) 72 (nI k) (q + 1) (nI 9) s = some s
      rw [im_X5_exchange_L2, if_pos (by decide)])
    (fun q c s hc hs => by
      refine ⟨upd (upd s (9 * a + c) (s (9 * k + c))) (9 * k + c) (s (9 * a + c)), fun j c' hj hc' => ?_, ?_⟩
      · have h1 := hs a c (by omega) hc
        have h2 := hs k c (by omega) hc
        rw [if_neg (by omega)] at h1 h2
        by_cases e1 : 9 * j + c' = 9 * k + c
        · rw [e1, up_s, h1]
          have ej : j = k := by omega
          have ec : c' = c := by omega
          subst ej; subst ec
          rw [if_pos (by omega)]
          by_cases z : j = a
          · rw [if_pos z, z]
          · rw [if_neg z, if_pos rfl]
        · rw [up_n _ _ e1]
          by_cases e2 : 9 * j + c' = 9 * a + c
          · rw [e2, up_s, h2]
            have ej : j = a := by omega
            have ec : c' = c := by omega
            subst ej; subst ec
            rw [if_pos (by omega), if_pos rfl]
          · rw [up_n _ _ e2, hs j c' hj hc']
            by_cases z : c' < c
            · rw [if_pos z, if_pos (show c' < c + 1 by omega)]
            · rw [if_neg z]
              by_cases z2 : c' < c + 1
              · rw [if_pos z2, if_neg (show ¬ j = a by omega), if_neg (show ¬ j = k by omega)]
              · rw [if_neg z2]
      · show im_X5_exchange_L2 (nI a) 72 (nI k) (q + 1) (nI c) s = im_X5_exchange_L2 (nI a) 72 (nI k) q (nI (c + 1)) _
        rw [im_X5_exchange_L2, if_neg (show ¬ (9 : Int32) ≤ nI c from nI_ge (a := c) (b := 9) hc (by omega))]
        simp only [ev_lt]
        rw [show (9 : Int32) = nI 9 from rfl, pk_mul, nI_add, pk_mul, nI_add, ev_ld (by omega) (by omega), ev_ld (by omega) (by omega), ev_st (by omega) (by omega), ev_st (by omega) (by omega), nI_1]) 9 0 f 5000 (by omega) (by omega) (fun j c' hj hc' => by rw [if_neg (by omega)])
  refine ⟨s, e, fun j c hj hc => ?_⟩
  rw [hs j c (by omega) (by omega), if_pos (by omega)]
  unfold gs_sw
  by_cases e1 : j = a
  · rw [if_pos e1, if_pos e1]; exact hf k c hk hc
  · rw [if_neg e1, if_neg e1]
    by_cases e2 : j = k
    · rw [if_pos e2, if_pos e2]; exact hf a c ha hc
    · rw [if_neg e2, if_neg e2]; exact hf j c hj hc
theorem g_scale {R m k : Nat} {f : Nat → Int32} {M : Nat → Nat → Gf} (b : Gf) (hf : Lm R m f M) (hR : R ≤ 8) (hm : m ≤ 8) (hk : k < R) :
    ∃ f', Lm R m f' (gs_sc M k b) ∧ ∀ K, im_X5_solve_L77 (nI m) K (nI k) 72 (Gi b) 5000 0 f = K f' := by
  obtain ⟨s, hs, e⟩ := lp_up (fun q c (s : Nat → Int32) => fun K => im_X5_solve_L77 (nI m) K (nI k) 72 (Gi b) q c s) (fun s => fun K => K s) (m + 1)
    (fun c s => ∀ j c', j < R → c' ≤ m → s (9 * j + c') = if j = k ∧ c' < c then Gi (gf_m (M k c') b) else Gi (M j c'))
    (fun q s _ => by
      funext K
      rw [im_X5_solve_L77, if_pos (nI_lt (by omega) (by omega))])
    (fun q c s hc hs => by
      refine ⟨upd s (9 * k + c) (Gi (gf_m (M k c) b)), fun j c' hj hc' => ?_, ?_⟩
      · by_cases e1 : 9 * j + c' = 9 * k + c
        · rw [e1, up_s]
          have ej : j = k := by omega
          have ec : c' = c := by omega
          rw [if_pos ⟨ej, by omega⟩, ec]
        · rw [up_n _ _ e1, hs j c' hj hc']
          by_cases z : j = k ∧ c' < c
          · rw [if_pos z, if_pos ⟨z.1, by omega⟩]
          · rw [if_neg z, if_neg (by omega)]
      · funext K
        have h1 := hs k c hk (by omega)
        rw [if_neg (by omega)] at h1
        rw [im_X5_solve_L77, if_neg (nI_nlt (by omega) (by omega))]
        simp only [ev_lt]
        rw [show (9 : Int32) = nI 9 from rfl, pk_mul, nI_add, ev_ld (by omega) (by omega), h1, ar_times, ev_b1, ev_st (by omega) (by omega), nI_1]) (m + 1) 0 f 5000 (by omega) (by omega) (fun j c' hj hc' => by rw [if_neg (by omega)]; exact hf j c' hj hc')
  refine ⟨s, fun j c hj hc => ?_, fun K => congrFun e K⟩
  rw [hs j c hj hc]
  unfold gs_sc
  by_cases z : j = k
  · rw [if_pos ⟨z, by omega⟩, if_pos z]
  · rw [if_neg (fun q => z q.1), if_neg z]
theorem g_elin {R m k j : Nat} {f : Nat → Int32} {M : Nat → Nat → Gf} (fj : Gf) (hf : Lm R m f M) (hR : R ≤ 8) (hm : m ≤ 8) (hk : k < R) (hj : j < R) (hz : j = k → fj = 0#6) :
    ∃ f', Lm R m f' (fun i c => if i = j then M j c ^^^ gf_m fj (M k c) else M i c) ∧ ∀ K, im_X5_solve_L157 (nI m) K (nI j) 72 (nI k) (Gi fj) 5000 0 f = K f' := by
  obtain ⟨s, hs, e⟩ := lp_up (fun q c (s : Nat → Int32) => fun K => im_X5_solve_L157 (nI m) K (nI j) 72 (nI k) (Gi fj) q c s) (fun s => fun K => K s) (m + 1)
    (fun c s => ∀ i c', i < R → c' ≤ m → s (9 * i + c') = if i = j ∧ c' < c then Gi (M j c' ^^^ gf_m fj (M k c')) else Gi (M i c'))
    (fun q s _ => by
      funext K
      rw [im_X5_solve_L157, if_pos (nI_lt (by omega) (by omega))])
    (fun q c s hc hs => by
      refine ⟨upd s (9 * j + c) (Gi (M j c ^^^ gf_m fj (M k c))), fun i c' hi hc' => ?_, ?_⟩
      · by_cases e1 : 9 * i + c' = 9 * j + c
        · rw [e1, up_s]
          have ej : i = j := by omega
          have ec : c' = c := by omega
          rw [if_pos ⟨ej, by omega⟩, ec]
        · rw [up_n _ _ e1, hs i c' hi hc']
          by_cases z : i = j ∧ c' < c
          · rw [if_pos z, if_pos ⟨z.1, by omega⟩]
          · rw [if_neg z, if_neg (by omega)]
      · funext K
        have h1 := hs k c hk (by omega)
        have h2 := hs j c hj (by omega)
        rw [if_neg (by omega)] at h1 h2
        rw [im_X5_solve_L157, if_neg (nI_nlt (by omega) (by omega))]
        simp only [ev_lt]
        rw [show (9 : Int32) = nI 9 from rfl, pk_mul, nI_add, pk_mul, nI_add, ev_ld (by omega) (by omega), ev_ld (by omega) (by omega), h1, h2, ar_times, ev_b1, Gi_xor, ev_st (by omega) (by omega), nI_1]) (m + 1) 0 f 5000 (by omega) (by omega) (fun i c' hi hc' => by rw [if_neg (by omega)]; exact hf i c' hi hc')
  refine ⟨s, fun i c hi hc => ?_, fun K => congrFun e K⟩
  rw [hs i c hi hc]
  by_cases z : i = j
  · rw [if_pos ⟨z, by omega⟩]; simp [z]
  · rw [if_neg (fun q => z q.1)]; simp [z]
theorem g_elim {R m k : Nat} {f : Nat → Int32} {M : Nat → Nat → Gf} (hf : Lm R m f M) (hR : R ≤ 8) (hm : m ≤ 8) (hk : k < R) (hkm : k < m) :
    ∃ f', Lm R m f' (gs_el M k) ∧ ∀ K, im_X5_solve_L121 (nI R) K (nI m) 72 (nI k) 5000 0 f = K f' := by
  obtain ⟨s, hs, e⟩ := lp_up (fun q j (s : Nat → Int32) => fun K => im_X5_solve_L121 (nI R) K (nI m) 72 (nI k) q j s) (fun s => fun K => K s) R
    (fun j s => Lm R m s (fun i c => if i < j then gs_el M k i c else M i c))
    (fun q s _ => by
      funext K
      rw [im_X5_solve_L121, if_pos (nI_le (Nat.le_refl R) (by omega))])
    (fun q j s hj hs => by
      have hrow : ∀ c, (fun i c => if i < j then gs_el M k i c else M i c) k c = M k c := fun c => by
        by_cases z : k < j
        · show (if k < j then gs_el M k k c else M k c) = _
          rw [if_pos z]; unfold gs_el gs_f; rw [if_pos rfl, gf_0_m, gf_x0]
        · exact if_neg z
      obtain ⟨s', hs', e'⟩ := g_elin (gs_f M k j) hs hR hm hk hj (fun z => by unfold gs_f; rw [if_pos z])
      refine ⟨s', fun i c hi hc => ?_, ?_⟩
      · rw [hs' i c hi hc]
        by_cases z : i = j
        · subst z
          simp only [if_true, Nat.lt_irrefl, if_false, Nat.lt_succ_self]
          have := hrow c
          simp only at this
          rw [this]
          rfl
        · simp only [z, if_false]
          by_cases z2 : i < j
          · rw [if_pos z2, if_pos (by omega)]
          · rw [if_neg z2, if_neg (by omega)]
      · funext K
        rw [im_X5_solve_L121, if_neg (nI_ge hj (by omega)), ev_j1]
        by_cases z : j = k
        · rw [if_pos (by rw [z])]
          show im_j1 _ _ = _
          rw [ev_j1]
          have e'' := e' (fun f30 => im_lt (nI j + 1) (fun v32 => im_X5_solve_L121 (nI R) K (nI m) 72 (nI k) q v32 f30))
          rw [show gs_f M k j = 0#6 from if_pos z] at e''
          refine e''.trans ?_
          rw [ev_lt, nI_1]
        · have hjk := hs j k hj (by omega)
          simp only [Nat.lt_irrefl, if_false] at hjk
          rw [if_neg (fun q => z ((nI_eq (by omega) (by omega)).mp q)), ev_lt, ev_lt, show (9 : Int32) = nI 9 from rfl, pk_mul, nI_add, ev_ld (by omega) (by omega), hjk]
          show im_j1 _ _ = _
          rw [ev_j1]
          have e'' := e' (fun f30 => im_lt (nI j + 1) (fun v32 => im_X5_solve_L121 (nI R) K (nI m) 72 (nI k) q v32 f30))
          rw [show gs_f M k j = M j k from if_neg z] at e''
          refine e''.trans ?_
          rw [ev_lt, nI_1]) R 0 f 5000 (by omega) (by omega) (fun i c hi hc => by simp only [Nat.not_lt_zero, if_false]; exact hf i c hi hc)
  refine ⟨s, fun i c hi hc => ?_, fun K => congrFun e K⟩
  rw [hs i c hi hc]
  simp only [hi, if_true]
