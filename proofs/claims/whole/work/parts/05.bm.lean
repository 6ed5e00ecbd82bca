/-! Berlekamp and Massey's steps with known places, and Forney's values. n places X i, x i = 1 / X i; er i: what is wrong there. -/
def bm_S (n : Nat) (X er : Nat → Gf) (j : Nat) : Gf := gf_s n (fun i => gf_m (er i) (gf_p (X i) (j + 1)))
def bm_G (S C : Nat → Gf) (k : Nat) : Gf := gf_s (k + 1) (fun j => gf_m (C j) (S (k - j)))
def bm_T (n R : Nat) (X x er : Nat → Gf) (k : Nat) (C : Nat → Gf) : Gf := gf_s n (fun i => gf_m (gf_m (er i) (gf_e (R + 1) C (x i))) (gf_p (X i) (k + 1)))
theorem bm_pp {a b : Gf} (h : gf_m a b = 1#6) (k : Nat) : gf_m (gf_p a k) (gf_p b k) = 1#6 := by rw [← gf_p_m, h, gf_p_1]
theorem bm_conv {n R : Nat} {X x er C : Nat → Gf} (hXx : ∀ i, i < n → gf_m (X i) (x i) = 1#6) {k : Nat} (hk : k ≤ R) (hC : ∀ j, k < j → j ≤ R → C j = 0#6) : bm_G (bm_S n X er) C k = bm_T n R X x er k C := by
  unfold bm_G bm_S bm_T
  have e1 : gf_s (k + 1) (fun j => gf_m (C j) (gf_s n (fun i => gf_m (er i) (gf_p (X i) (k - j + 1))))) = gf_s (k + 1) (fun j => gf_s n (fun i => gf_m (C j) (gf_m (er i) (gf_p (X i) (k - j + 1))))) := gf_s_congr (fun j _ => (gf_s_m _ _ _).symm)
  rw [e1, gf_s_swap]
  refine gf_s_congr (fun i hi => ?_)
  rw [gf_e_more (n := k + 1) (fun j h1 h2 => hC j (by omega) (by omega)) (by omega), gf_e_s, gf_m_comm (gf_m (er i) _), ← gf_m_assoc, ← gf_s_m]
  refine gf_s_congr (fun j hj => ?_)
  have e2 : gf_p (X i) (k + 1) = gf_m (gf_p (X i) (k - j + 1)) (gf_p (X i) j) := by rw [← gf_p_add]; congr 1; omega
  have e3 := bm_pp (hXx i hi) j
  rw [e2]
  rw [show gf_m (gf_m (gf_m (gf_p (X i) (k - j + 1)) (gf_p (X i) j)) (er i)) (gf_m (C j) (gf_p (x i) j)) = gf_m (gf_m (C j) (gf_m (er i) (gf_p (X i) (k - j + 1)))) (gf_m (gf_p (X i) j) (gf_p (x i) j)) by
    generalize gf_p (X i) (k - j + 1) = a
    generalize gf_p (X i) j = b
    generalize gf_p (x i) j = c
    rw [gf_m_assoc, gf_m_assoc, gf_m_assoc, gf_m_assoc]
    rw [gf_m_l b (er i), gf_m_l b (C j), gf_m_l a (er i), gf_m_l a (C j), gf_m_l (er i) (C j)]]
  rw [e3, gf_m_1]
theorem bm_T_add (n R : Nat) (X x er : Nat → Gf) (k : Nat) (C B : Nat → Gf) (g : Gf) : bm_T n R X x er k (fun j => C j ^^^ gf_m g (B j)) = bm_T n R X x er k C ^^^ gf_m g (bm_T n R X x er k B) := by
  unfold bm_T
  rw [← gf_s_m, ← gf_s_add]
  refine gf_s_congr (fun i _ => ?_)
  rw [gf_e_add, gf_e_m, gf_m_addr, gf_m_addl, gf_m_l (er i) g, gf_m_assoc g]
theorem bm_T_m (n R : Nat) (X x er : Nat → Gf) (k : Nat) (B : Nat → Gf) (g : Gf) : bm_T n R X x er k (fun j => gf_m g (B j)) = gf_m g (bm_T n R X x er k B) := by
  unfold bm_T
  rw [← gf_s_m]
  refine gf_s_congr (fun i _ => ?_)
  rw [gf_e_m, gf_m_l (er i) g, gf_m_assoc g]
theorem bm_e_sh {R : Nat} {B : Nat → Gf} (hB : B R = 0#6) (y : Gf) : gf_e (R + 1) (gf_sh B) y = gf_m y (gf_e (R + 1) B y) := by
  rw [gf_e_sh, gf_e_more (n := R) (k := R + 1) (fun i h1 h2 => by rw [show i = R by omega]; exact hB) (by omega)]
theorem bm_T_sh {n R : Nat} {X x er B : Nat → Gf} (hXx : ∀ i, i < n → gf_m (X i) (x i) = 1#6) (hB : B R = 0#6) (k : Nat) : bm_T n R X x er (k + 1) (gf_sh B) = bm_T n R X x er k B := by
  unfold bm_T
  refine gf_s_congr (fun i hi => ?_)
  rw [bm_e_sh hB, gf_p]
  generalize gf_e (R + 1) B (x i) = E
  generalize gf_p (X i) (k + 1) = P
  rw [gf_m_l (er i) (x i), gf_m_assoc (x i), gf_m_l (gf_m (er i) E) (X i), ← gf_m_assoc (x i), gf_m_comm (x i), hXx i hi, gf_1_m]
/-- what holds ahead of step r: C the locator, B the former one, L the length -/
def bm_I (n R e v : Nat) (X x er : Nat → Gf) (lost : Nat → Bool) (r : Nat) (C B : Nat → Gf) (L : Nat) : Prop :=
  (∀ k, L < k → k ≤ R → C k = 0#6) ∧ e ≤ L ∧ L ≤ r ∧ C 0 = 1#6 ∧ (∀ i, i < n → lost i = true → gf_e (R + 1) C (x i) = 0#6 ∧ gf_e (R + 1) B (x i) = 0#6) ∧ (∀ k, L ≤ k → k < r → bm_T n R X x er k C = 0#6) ∧
  (∀ k, r + e - L < k → k ≤ R → B k = 0#6) ∧ (e < L → (∀ k, r + e - L ≤ k → k + 1 < r → bm_T n R X x er k B = 0#6) ∧ ∀ k, k + 1 = r → bm_T n R X x er k B = 1#6) ∧ L ≤ v + e
theorem bm_gap {n R e v : Nat} {X x er : Nat → Gf} {lost : Nat → Bool} {r L : Nat} {C B : Nat → Gf} (hX : ∀ i j, i < n → j < n → X i = X j → i = j) (h0 : ∀ i, i < n → X i ≠ 0#6) (hv : gf_c n (fun i => !lost i && er i != 0#6) ≤ v)
    (h : bm_I n R e v X x er lost r C B L) (hr : L + v ≤ r) : ∀ i, i < n → gf_m (er i) (gf_e (R + 1) C (x i)) = 0#6 := by
  obtain ⟨-, -, -, -, hb, hc, -⟩ := h
  refine gf_vd hX h0 v (fun i => gf_m (er i) (gf_e (R + 1) C (x i))) (L + 1) ?_ ?_
  · refine Nat.le_trans (gf_c_le (fun i hi q => ?_)) hv
    simp only [bne_iff_ne, ne_eq] at q
    have h1 : er i ≠ 0#6 := fun z => q (by rw [z, gf_0_m])
    have h2 : lost i = false := by
      cases hl : lost i with
      | false => rfl
      | true => exact absurd (by rw [(hb i hi hl).1, gf_m_0]) q
    simp [h1, h2]
  · intro k hk
    have := hc (L + k) (by omega) (by omega)
    unfold bm_T at this
    rw [← this]
    exact gf_s_congr (fun i _ => by congr 2; omega)
theorem bm_gap2 {n R e v : Nat} {X x er : Nat → Gf} {lost : Nat → Bool} {r L : Nat} {C B : Nat → Gf} (hX : ∀ i j, i < n → j < n → X i = X j → i = j) (h0 : ∀ i, i < n → X i ≠ 0#6) (hv : gf_c n (fun i => !lost i && er i != 0#6) ≤ v)
    (h : bm_I n R e v X x er lost r C B L) (hg : bm_T n R X x er r C ≠ 0#6) : r + 1 ≤ L + v := by
  apply Classical.byContradiction
  intro q
  have := bm_gap hX h0 hv h (by omega)
  refine hg ?_
  unfold bm_T
  exact gf_s_zero (fun i hi => by rw [this i hi, gf_0_m])
theorem bm_keep {n R e v : Nat} {X x er : Nat → Gf} {lost : Nat → Bool} {r L : Nat} {C B : Nat → Gf} (hXx : ∀ i, i < n → gf_m (X i) (x i) = 1#6) (hr : r < R)
    (h : bm_I n R e v X x er lost r C B L) (hg : bm_T n R X x er r C = 0#6) : bm_I n R e v X x er lost (r + 1) C (gf_sh B) L := by
  obtain ⟨ha, hel, hlr, h1, hb, hc, hd, hu, hlv⟩ := h
  have hBR : B R = 0#6 := hd R (by omega) (Nat.le_refl R)
  refine ⟨ha, hel, by omega, h1, fun i hi hl => ⟨(hb i hi hl).1, by rw [bm_e_sh hBR, (hb i hi hl).2, gf_m_0]⟩, ?_, ?_, ?_, hlv⟩
  · intro k h1 h2
    by_cases q : k = r
    · rw [q]; exact hg
    · exact hc k h1 (by omega)
  · intro k h1 h2
    cases k with
    | zero => rfl
    | succ k => exact hd k (by omega) (by omega)
  · intro hL
    obtain ⟨u1, u2⟩ := hu hL
    refine ⟨fun k h1 h2 => ?_, fun k h1 => ?_⟩
    · cases k with
      | zero => omega
      | succ k => rw [bm_T_sh hXx hBR]; exact u1 k (by omega) (by omega)
    · cases k with
      | zero => omega
      | succ k => rw [bm_T_sh hXx hBR]; exact u2 k (by omega)
theorem bm_small {n R e v : Nat} {X x er : Nat → Gf} {lost : Nat → Bool} {r L : Nat} {C B : Nat → Gf} (hXx : ∀ i, i < n → gf_m (X i) (x i) = 1#6) (hr : r < R)
    (h : bm_I n R e v X x er lost r C B L) (hg : ¬ 2 * L ≤ r + e) : bm_I n R e v X x er lost (r + 1) (fun k => C k ^^^ gf_m (bm_T n R X x er r C) (gf_sh B k)) (gf_sh B) L := by
  obtain ⟨ha, hel, hlr, h1, hb, hc, hd, hu, hlv⟩ := h
  have hBR : B R = 0#6 := hd R (by omega) (Nat.le_refl R)
  have hL : e < L := by omega
  obtain ⟨u1, u2⟩ := hu hL
  have hsh : ∀ k, r + 1 + e - L < k → k ≤ R → gf_sh B k = 0#6 := by
    intro k h1 h2
    cases k with
    | zero => rfl
    | succ k => exact hd k (by omega) (by omega)
  have s1 : ∀ k, r + 1 + e - L ≤ k → k < r → bm_T n R X x er k (gf_sh B) = 0#6 := by
    intro k h1 h2
    cases k with
    | zero => omega
    | succ k => rw [bm_T_sh hXx hBR]; exact u1 k (by omega) (by omega)
  have s2 : bm_T n R X x er r (gf_sh B) = 1#6 := by
    obtain ⟨q, rfl⟩ : ∃ q, r = q + 1 := ⟨r - 1, by omega⟩
    rw [bm_T_sh hXx hBR]; exact u2 q rfl
  refine ⟨?_, hel, by omega, ?_, fun i hi hl => ⟨?_, by rw [bm_e_sh hBR, (hb i hi hl).2, gf_m_0]⟩, ?_, hsh, fun _ => ⟨fun k h1 h2 => s1 k h1 (by omega), fun k h1 => by rw [show k = r by omega]; exact s2⟩, hlv⟩
  · intro k h1 h2
    show C k ^^^ gf_m _ (gf_sh B k) = 0#6
    rw [ha k h1 h2, hsh k (by omega) h2, gf_m_0]; exact gf_xs _
  · show C 0 ^^^ gf_m _ 0#6 = 1#6
    rw [gf_m_0, gf_x0]; exact h1
  · rw [gf_e_add, gf_e_m, (hb i hi hl).1, bm_e_sh hBR, (hb i hi hl).2, gf_m_0, gf_m_0]; exact gf_xs _
  · intro k h1 h2
    rw [bm_T_add]
    by_cases q : k = r
    · rw [q, s2, gf_m_1]; exact gf_xs _
    · rw [hc k h1 (by omega), s1 k (by omega) (by omega), gf_m_0]; exact gf_xs _
theorem bm_grow {n R e v : Nat} {X x er : Nat → Gf} {lost : Nat → Bool} {r L : Nat} {C B : Nat → Gf} (hX : ∀ i j, i < n → j < n → X i = X j → i = j) (h0 : ∀ i, i < n → X i ≠ 0#6) (hv : gf_c n (fun i => !lost i && er i != 0#6) ≤ v) (hXx : ∀ i, i < n → gf_m (X i) (x i) = 1#6) (hr : r < R)
    (h : bm_I n R e v X x er lost r C B L) (hg : 2 * L ≤ r + e) (hT : bm_T n R X x er r C ≠ 0#6) : bm_I n R e v X x er lost (r + 1) (fun k => C k ^^^ gf_m (bm_T n R X x er r C) (gf_sh B k)) (fun k => gf_m (gf_i (bm_T n R X x er r C)) (C k)) (r + 1 + e - L) := by
  have hgap := bm_gap2 hX h0 hv h hT
  obtain ⟨ha, hel, hlr, h1, hb, hc, hd, hu, hlv⟩ := h
  have hBR : B R = 0#6 := hd R (by omega) (Nat.le_refl R)
  have hsh : ∀ k, r + 1 + e - L < k → k ≤ R → gf_sh B k = 0#6 := by
    intro k h1 h2
    cases k with
    | zero => rfl
    | succ k => exact hd k (by omega) (by omega)
  refine ⟨?_, by omega, by omega, ?_, fun i hi hl => ⟨?_, by rw [gf_e_m, (hb i hi hl).1, gf_m_0]⟩, ?_, ?_, ?_, by omega⟩
  · intro k h1 h2
    show C k ^^^ gf_m _ (gf_sh B k) = 0#6
    rw [ha k (by omega) h2, hsh k (by omega) h2, gf_m_0]; exact gf_xs _
  · show C 0 ^^^ gf_m _ 0#6 = 1#6
    rw [gf_m_0, gf_x0]; exact h1
  · rw [gf_e_add, gf_e_m, (hb i hi hl).1, bm_e_sh hBR, (hb i hi hl).2, gf_m_0, gf_m_0]; exact gf_xs _
  · intro k q1 q2
    have hL : e < L := by
      rcases Nat.lt_or_ge e L with q | q
      · exact q
      · exfalso; omega
    obtain ⟨u1, u2⟩ := hu hL
    rw [bm_T_add]
    by_cases q : k = r
    · subst q
      obtain ⟨j, rfl⟩ : ∃ j, k = j + 1 := ⟨k - 1, by omega⟩
      rw [bm_T_sh hXx hBR, u2 j rfl, gf_m_1]; exact gf_xs _
    · obtain ⟨j, rfl⟩ : ∃ j, k = j + 1 := ⟨k - 1, by omega⟩
      rw [hc (j + 1) (by omega) (by omega), bm_T_sh hXx hBR, u1 j (by omega) (by omega), gf_m_0]; exact gf_xs _
  · intro k q1 q2
    show gf_m _ (C k) = 0#6
    rw [ha k (by omega) q2, gf_m_0]
  · intro _
    refine ⟨fun k q1 q2 => ?_, fun k q1 => ?_⟩
    · rw [bm_T_m, hc k (by omega) (by omega), gf_m_0]
    · rw [show k = r by omega, bm_T_m]; exact gf_i_m _ hT
/-- at the end the locator is 0 at the places that are lost or wrong, and there alone; each a simple root -/
theorem bm_end {n R e v : Nat} {X x er : Nat → Gf} {lost : Nat → Bool} {L : Nat} {C B : Nat → Gf} (hX : ∀ i j, i < n → j < n → X i = X j → i = j) (h0 : ∀ i, i < n → X i ≠ 0#6) (hx : ∀ i j, i < n → j < n → x i = x j → i = j)
    (hv : gf_c n (fun i => !lost i && er i != 0#6) = v) (he : gf_c n lost = e) (h2 : 2 * v + e ≤ R) (h : bm_I n R e v X x er lost R C B L) :
    (∀ i, i < n → (gf_e (R + 1) C (x i) = 0#6 ↔ (lost i = true ∨ er i ≠ 0#6))) ∧ ∀ i, i < n → gf_e (R + 1) C (x i) = 0#6 → gf_e R (gf_sl C) (x i) ≠ 0#6 := by
  have hz := bm_gap hX h0 (Nat.le_of_eq hv) h (by obtain ⟨-, -, -, -, -, -, -, -, q⟩ := h; omega)
  obtain ⟨ha, hel, hlr, h1, hb, hc, hd, hu, hlv⟩ := h
  have hin : ∀ i, i < n → (lost i = true ∨ er i ≠ 0#6) → gf_e (R + 1) C (x i) = 0#6 := by
    intro i hi q
    rcases q with q | q
    · exact (hb i hi q).1
    · rcases gf_z (hz i hi) with z | z
      · exact absurd z q
      · exact z
  have hC0 : C 0 ≠ 0#6 := by rw [h1]; decide
  have hdeg : ∀ y, gf_e (R + 1) C y = gf_e (L + 1) C y := fun y => gf_e_more (fun i q1 q2 => ha i (by omega) (by omega)) (by omega) y
  have hroots := gf_roots hx L C ⟨0, Nat.zero_le L, hC0⟩
  have hcnt : gf_c n (fun i => lost i || (!lost i && er i != 0#6)) = e + v := by
    rw [gf_c_dis (fun i _ => by cases lost i <;> simp), he, hv]
  have hle := gf_c_le (n := n) (p := fun i => lost i || (!lost i && er i != 0#6)) (q := fun i => gf_e (L + 1) C (x i) == 0#6) (fun i hi q => by
    rw [← hdeg]
    simp only [beq_iff_eq]
    refine hin i hi ?_
    cases hl : lost i with
    | true => exact Or.inl rfl
    | false => rw [hl] at q; exact Or.inr (by simpa using q))
  have hL : L = e + v := by omega
  refine ⟨fun i hi => ⟨fun q => ?_, hin i hi⟩, fun i hi q => ?_⟩
  · apply Classical.byContradiction
    intro z
    have z1 : lost i = false := by
      cases hl : lost i with
      | false => rfl
      | true => exact absurd (Or.inl hl) z
    have z2 : er i = 0#6 := by
      apply Classical.byContradiction
      intro w
      exact z (Or.inr w)
    have := gf_c_lt (n := n) (i0 := i) (p := fun i => lost i || (!lost i && er i != 0#6)) (q := fun i => gf_e (L + 1) C (x i) == 0#6) (fun i hi q => by
      rw [← hdeg]
      simp only [beq_iff_eq]
      refine hin i hi ?_
      cases hl : lost i with
      | true => exact Or.inl rfl
      | false => rw [hl] at q; exact Or.inr (by simpa using q)) hi (by simp [z1, z2]) (by rw [← hdeg]; simpa using q)
    omega
  · cases hLL : L with
    | zero =>
      exfalso
      rw [hdeg, hLL] at q
      simp [gf_e, gf_m_0] at q
      exact hC0 q
    | succ d =>
      have q' := q
      rw [hdeg, hLL] at q'
      have hn : d + 1 ≤ gf_c n (fun i => gf_e (d + 1 + 1) C (x i) == 0#6) := by
        rw [hcnt] at hle
        rw [hLL] at hle hL
        omega
      have hs := gf_simple hx (d := d) (c := C) ⟨0, Nat.zero_le _, hC0⟩ hn hi q'
      rw [gf_slope (d + 1) C (x i)] at hs
      rw [gf_e_more (n := d + 1) (k := R) (fun k q1 q2 => by
        unfold gf_sl
        split
        · exact ha (k + 1) (by omega) (by omega)
        · rfl) (by omega)]
      exact hs
/-- Forney -/
theorem bm_split (a b : Nat) (c : Nat → Gf) (y : Gf) : gf_e (a + b) c y = gf_e a c y ^^^ gf_m (gf_p y a) (gf_e b (fun k => c (a + k)) y) := by
  induction a generalizing c with
  | zero =>
    rw [Nat.zero_add]
    simp only [gf_e, gf_p, gf_1_m, gf_0x]
    exact gf_e_congr (fun k _ => by rw [Nat.zero_add]) y
  | succ a ih =>
    rw [show a + 1 + b = (a + b) + 1 by omega, gf_e, ih, gf_e, gf_p, gf_m_addr, gf_m_assoc, BitVec.xor_assoc]
    congr 4
    exact gf_e_congr (fun k _ => by rw [show a + k + 1 = a + 1 + k by omega]) y
theorem bm_one (R : Nat) (C : Nat → Gf) (x : Gf) (h : gf_e (R + 1) C x = 0#6) : gf_s R (fun k => gf_e (k + 1) C x) = gf_m x (gf_e R (gf_sl C) x) := by
  rw [← gf_slope, gf_e_s, ← gf_s_m]
  refine gf_s_congr (fun k hk => ?_)
  have e := bm_split (k + 1) (R - k) C x
  rw [show k + 1 + (R - k) = R + 1 by omega, h] at e
  have e2 := gf_xe e.symm
  rw [e2, gf_p, gf_q, show R + 1 - 1 - k = R - k by omega, gf_m_assoc, gf_m_comm (gf_p x k)]
def bm_g (C : Nat → Gf) (x y : Gf) (k : Nat) : Gf := gf_s (k + 1) (fun j => gf_m (gf_m (C j) (gf_p x j)) (gf_p y (k - j)))
theorem bm_g_s (C : Nat → Gf) (x y : Gf) (k : Nat) : bm_g C x y (k + 1) = gf_m y (bm_g C x y k) ^^^ gf_m (C (k + 1)) (gf_p x (k + 1)) := by
  unfold bm_g
  rw [gf_s, ← gf_s_m]
  congr 1
  · refine gf_s_congr (fun j hj => ?_)
    rw [show k + 1 - j = (k - j) + 1 by omega, gf_p, gf_m_l]
  · rw [Nat.sub_self]; exact gf_m_1 _
theorem bm_tele (C : Nat → Gf) (x y : Gf) (N : Nat) : gf_m (1#6 ^^^ y) (gf_s N (fun k => bm_g C x y k)) = bm_g C x y N ^^^ gf_e (N + 1) C x := by
  have h1 : gf_s (N + 1) (fun k => bm_g C x y k) = gf_s N (fun k => bm_g C x y k) ^^^ bm_g C x y N := rfl
  have h2 := gf_s_head N (fun k => bm_g C x y k)
  have h3 : gf_s N (fun k => bm_g C x y (k + 1)) = gf_m y (gf_s N (fun k => bm_g C x y k)) ^^^ gf_s N (fun k => gf_m (C (k + 1)) (gf_p x (k + 1))) := by
    rw [← gf_s_m, ← gf_s_add]
    exact gf_s_congr (fun k _ => bm_g_s C x y k)
  have h4 : gf_e (N + 1) C x = bm_g C x y 0 ^^^ gf_s N (fun k => gf_m (C (k + 1)) (gf_p x (k + 1))) := by
    rw [gf_e_s, gf_s_head]
    congr 1
    unfold bm_g
    simp [gf_s, gf_p, gf_m_1]
  rw [h4, gf_m_addl, gf_1_m]
  have h5 : gf_s N (fun k => bm_g C x y k) ^^^ bm_g C x y N = bm_g C x y 0 ^^^ (gf_m y (gf_s N (fun k => bm_g C x y k)) ^^^ gf_s N (fun k => gf_m (C (k + 1)) (gf_p x (k + 1)))) := by rw [← h1, h2, h3]
  generalize gf_s N (fun k => bm_g C x y k) = F at h5 ⊢
  generalize gf_s N (fun k => gf_m (C (k + 1)) (gf_p x (k + 1))) = P at h5 ⊢
  generalize bm_g C x y N = gN at h5 ⊢
  generalize bm_g C x y 0 = g0 at h5 ⊢
  generalize gf_m y F = yF at h5 ⊢
  have h6 : F = g0 ^^^ (yF ^^^ P) ^^^ gN := by rw [← h5, BitVec.xor_assoc, gf_xs, gf_x0]
  rw [h6]
  rw [show g0 ^^^ (yF ^^^ P) ^^^ gN ^^^ yF = gN ^^^ (g0 ^^^ P) ^^^ (yF ^^^ yF) by ac_rfl, gf_xs, gf_x0]
theorem bm_forney {n R : Nat} {X x er C : Nat → Gf} (hX : ∀ i j, i < n → j < n → X i = X j → i = j) (hXx : ∀ i, i < n → gf_m (X i) (x i) = 1#6) (hz : ∀ i, i < n → er i ≠ 0#6 → gf_e (R + 1) C (x i) = 0#6) {i0 : Nat} (hi0 : i0 < n) (hr : gf_e (R + 1) C (x i0) = 0#6) :
    gf_e R (bm_G (bm_S n X er) C) (x i0) = gf_m (er i0) (gf_e R (gf_sl C) (x i0)) := by
  have e1 : gf_e R (bm_G (bm_S n X er) C) (x i0) = gf_s n (fun i => gf_m (gf_m (er i) (X i)) (gf_s R (fun k => bm_g C (x i0) (gf_m (X i) (x i0)) k))) := by
    rw [gf_e_s]
    have a1 : ∀ k, k < R → gf_m (bm_G (bm_S n X er) C k) (gf_p (x i0) k) = gf_s n (fun i => gf_m (gf_m (er i) (X i)) (bm_g C (x i0) (gf_m (X i) (x i0)) k)) := by
      intro k _
      unfold bm_G bm_S bm_g
      rw [gf_m_comm, ← gf_s_m]
      have a2 : ∀ j, j < k + 1 → gf_m (gf_p (x i0) k) (gf_m (C j) (gf_s n (fun i => gf_m (er i) (gf_p (X i) (k - j + 1))))) = gf_s n (fun i => gf_m (gf_m (er i) (X i)) (gf_m (gf_m (C j) (gf_p (x i0) j)) (gf_p (gf_m (X i) (x i0)) (k - j)))) := by
        intro j hj
        rw [← gf_m_assoc, ← gf_s_m]
        refine gf_s_congr (fun i _ => ?_)
        have a3 : gf_p (x i0) k = gf_m (gf_p (x i0) j) (gf_p (x i0) (k - j)) := by rw [← gf_p_add]; congr 1; omega
        rw [a3, gf_p_m, gf_p]
        generalize gf_p (x i0) j = a
        generalize gf_p (x i0) (k - j) = b
        generalize gf_p (X i) (k - j) = d
        generalize C j = f
        generalize er i = g
        generalize X i = h
        rw [gf_m_assoc, gf_m_assoc, gf_m_assoc, gf_m_assoc]
        rw [gf_m_l b f, gf_m_l b g, gf_m_l b h, gf_m_comm b d, gf_m_l a f, gf_m_l a g, gf_m_l a h, gf_m_l f g, gf_m_l f h]
      rw [gf_s_congr a2, gf_s_swap]
      exact gf_s_congr (fun i _ => gf_s_m _ _ _)
    rw [gf_s_congr a1, gf_s_swap]
    exact gf_s_congr (fun i _ => gf_s_m _ _ _)
  rw [e1, gf_s_one (i0 := i0) hi0 (fun i hi q => ?_)]
  · have hy : gf_m (X i0) (x i0) = 1#6 := hXx i0 hi0
    rw [hy]
    have e2 : gf_s R (fun k => bm_g C (x i0) 1#6 k) = gf_s R (fun k => gf_e (k + 1) C (x i0)) := by
      refine gf_s_congr (fun k _ => ?_)
      rw [gf_e_s]
      unfold bm_g
      exact gf_s_congr (fun j _ => by rw [gf_p_1, gf_m_1])
    rw [e2, bm_one R C (x i0) hr, gf_m_assoc, ← gf_m_assoc (X i0), hy, gf_1_m]
  · by_cases z : er i = 0#6
    · rw [z, gf_0_m, gf_0_m]
    · have hC := hz i hi z
      have ht := bm_tele C (x i0) (gf_m (X i) (x i0)) R
      rw [hr, gf_x0] at ht
      have hg : bm_g C (x i0) (gf_m (X i) (x i0)) R = 0#6 := by
        have : bm_g C (x i0) (gf_m (X i) (x i0)) R = gf_m (gf_m (gf_p (x i0) R) (gf_p (X i) R)) (gf_e (R + 1) C (x i)) := by
          rw [gf_e_s, ← gf_s_m]
          unfold bm_g
          refine gf_s_congr (fun j hj => ?_)
          have b1 : gf_p (x i0) R = gf_m (gf_p (x i0) j) (gf_p (x i0) (R - j)) := by rw [← gf_p_add]; congr 1; omega
          have b2 : gf_p (X i) R = gf_m (gf_p (X i) j) (gf_p (X i) (R - j)) := by rw [← gf_p_add]; congr 1; omega
          have b3 := bm_pp (hXx i hi) j
          rw [b1, b2, gf_p_m]
          generalize gf_p (x i0) j = a
          generalize gf_p (x i0) (R - j) = b
          generalize gf_p (X i) (R - j) = d
          generalize gf_p (X i) j = f at b3 ⊢
          generalize gf_p (x i) j = g at b3 ⊢
          generalize C j = h
          rw [show gf_m (gf_m (gf_m a b) (gf_m f d)) (gf_m h g) = gf_m (gf_m (gf_m h a) (gf_m d b)) (gf_m f g) by
            rw [gf_m_assoc, gf_m_assoc, gf_m_assoc, gf_m_assoc, gf_m_assoc]
            rw [gf_m_l d h, gf_m_l f h, gf_m_l b h, gf_m_l a h, gf_m_l f d, gf_m_l b d, gf_m_assoc d b]]
          rw [b3, gf_m_1]
        rw [this, hC, gf_m_0]
      rw [hg] at ht
      rcases gf_z ht with w | w
      · exfalso
        have w1 : 1#6 = gf_m (X i) (x i0) := gf_xe w
        rw [← hXx i0 hi0, gf_m_comm, gf_m_comm (X i)] at w1
        have hx0 : x i0 ≠ 0#6 := by
          intro z0
          have := hXx i0 hi0
          rw [z0, gf_m_0] at this
          exact absurd this (by decide)
        exact q (hX i i0 hi hi0 (gf_cancel hx0 w1).symm)
      · rw [w, gf_m_0]
