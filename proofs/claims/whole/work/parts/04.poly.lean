/-! Vandermonde: few places, as many equations -/
theorem gf_vd {n : Nat} {X : Nat → Gf} (hX : ∀ i j, i < n → j < n → X i = X j → i = j) (h0 : ∀ i, i < n → X i ≠ 0#6) :
    ∀ (v : Nat) (a : Nat → Gf) (k0 : Nat), gf_c n (fun i => a i != 0#6) ≤ v → (∀ k, k < v → gf_s n (fun i => gf_m (a i) (gf_p (X i) (k0 + k))) = 0#6) → ∀ i, i < n → a i = 0#6 := by
  intro v
  induction v with
  | zero =>
    intro a k0 hc _ i hi
    have := gf_c_none (Nat.le_zero.mp hc) i hi
    simpa using this
  | succ v ih =>
    intro a k0 hc hs
    by_cases hz : gf_c n (fun i => a i != 0#6) = 0
    · intro i hi
      have := gf_c_none hz i hi
      simpa using this
    · obtain ⟨i0, hi0, ha0⟩ := gf_c_pos (Nat.pos_of_ne_zero hz)
      have hb : ∀ i, i < n → gf_m (a i) (X i ^^^ X i0) = 0#6 := by
        refine ih (fun i => gf_m (a i) (X i ^^^ X i0)) k0 ?_ ?_
        · have := gf_c_lt (n := n) (i0 := i0) (p := fun i => gf_m (a i) (X i ^^^ X i0) != 0#6) (q := fun i => a i != 0#6) (fun i hi h => by
            simp only [bne_iff_ne, ne_eq] at h ⊢
            intro q; rw [q, gf_0_m] at h; exact h rfl) hi0 (by simp [gf_xs, gf_m_0]) ha0
          omega
        · intro k hk
          have h1 := hs (k + 1) (by omega)
          have h2 := hs k (by omega)
          have e : gf_s n (fun i => gf_m (gf_m (a i) (X i ^^^ X i0)) (gf_p (X i) (k0 + k))) = gf_s n (fun i => gf_m (a i) (gf_p (X i) (k0 + (k + 1)))) ^^^ gf_m (X i0) (gf_s n (fun i => gf_m (a i) (gf_p (X i) (k0 + k)))) := by
            rw [← gf_s_m, ← gf_s_add]
            refine gf_s_congr (fun i _ => ?_)
            rw [show k0 + (k + 1) = (k0 + k) + 1 by omega, gf_p, gf_m_addr, gf_m_addl, gf_m_assoc, gf_m_assoc, gf_m_l (X i0)]
          rw [e, h1, h2, gf_m_0]; exact gf_xs _
      have hne : ∀ i, i < n → i ≠ i0 → a i = 0#6 := by
        intro i hi q
        rcases gf_z (hb i hi) with h | h
        · exact h
        · exact absurd (hX i i0 hi hi0 (gf_xe h)) q
      have h00 := hs 0 (by omega)
      rw [gf_s_one (i0 := i0) hi0 (fun i hi q => by rw [hne i hi q, gf_0_m])] at h00
      intro i hi
      by_cases q : i = i0
      · subst q
        rcases gf_z h00 with h | h
        · exact h
        · exact absurd h (gf_p_nz (h0 i hi) _)
      · exact hne i hi q
/-! values of polynomials: n coefficients -/
def gf_e : Nat → (Nat → Gf) → Gf → Gf
  | 0, _, _ => 0#6
  | n + 1, c, y => c 0 ^^^ gf_m y (gf_e n (fun k => c (k + 1)) y)
theorem gf_e_s (n : Nat) (c : Nat → Gf) (y : Gf) : gf_e n c y = gf_s n (fun k => gf_m (c k) (gf_p y k)) := by
  induction n generalizing c with
  | zero => rfl
  | succ n ih =>
    rw [gf_e, ih, gf_s_head]
    congr 1
    · exact (gf_m_1 _).symm
    · rw [← gf_s_m]
      exact gf_s_congr (fun i _ => by rw [gf_p, gf_m_l])
theorem gf_e_congr {n : Nat} {c d : Nat → Gf} (h : ∀ k, k < n → c k = d k) (y : Gf) : gf_e n c y = gf_e n d y := by
  rw [gf_e_s, gf_e_s]
  exact gf_s_congr (fun i hi => by rw [h i hi])
theorem gf_e_add (n : Nat) (c d : Nat → Gf) (y : Gf) : gf_e n (fun k => c k ^^^ d k) y = gf_e n c y ^^^ gf_e n d y := by
  rw [gf_e_s, gf_e_s, gf_e_s, ← gf_s_add]
  exact gf_s_congr (fun i _ => gf_m_addl _ _ _)
theorem gf_e_m (n : Nat) (a : Gf) (c : Nat → Gf) (y : Gf) : gf_e n (fun k => gf_m a (c k)) y = gf_m a (gf_e n c y) := by
  rw [gf_e_s, gf_e_s, ← gf_s_m]
  exact gf_s_congr (fun i _ => gf_m_assoc _ _ _)
theorem gf_e_more {n k : Nat} {c : Nat → Gf} (hz : ∀ i, n ≤ i → i < k → c i = 0#6) (h : n ≤ k) (y : Gf) : gf_e k c y = gf_e n c y := by
  rw [gf_e_s, gf_e_s]
  exact gf_s_more (fun i h1 h2 => by rw [hz i h1 h2, gf_0_m]) h
/-- times x -/
def gf_sh (c : Nat → Gf) : Nat → Gf
  | 0 => 0#6
  | k + 1 => c k
theorem gf_e_sh (n : Nat) (c : Nat → Gf) (y : Gf) : gf_e (n + 1) (gf_sh c) y = gf_m y (gf_e n c y) := by
  rw [gf_e]
  exact gf_0x _
/-- division by x + r: the quotient of n coefficients -/
def gf_q (n : Nat) (c : Nat → Gf) (r : Gf) (k : Nat) : Gf := gf_e (n - 1 - k) (fun j => c (k + 1 + j)) r
theorem gf_q_0 (n : Nat) (c : Nat → Gf) (r : Gf) : gf_q (n + 1) c r 0 = gf_e n (fun k => c (k + 1)) r := by
  unfold gf_q
  rw [show n + 1 - 1 - 0 = n by omega]
  exact gf_e_congr (fun k _ => by rw [show 0 + 1 + k = k + 1 by omega]) r
theorem gf_q_s (n : Nat) (c : Nat → Gf) (r : Gf) (k : Nat) : gf_q (n + 1) c r (k + 1) = gf_q n (fun k => c (k + 1)) r k := by
  unfold gf_q
  rw [show n + 1 - 1 - (k + 1) = n - 1 - k by omega]
  exact gf_e_congr (fun j _ => by rw [show k + 1 + 1 + j = k + 1 + j + 1 by omega]) r
theorem gf_q_n {n : Nat} (c : Nat → Gf) (r : Gf) {k : Nat} (h : k + 1 < n) : gf_q n c r k = c (k + 1) ^^^ gf_m r (gf_q n c r (k + 1)) := by
  unfold gf_q
  rw [show n - 1 - k = (n - 1 - (k + 1)) + 1 by omega, gf_e]
  congr 1
  congr 1
  exact gf_e_congr (fun j _ => by rw [show k + 1 + (j + 1) = k + 1 + 1 + j by omega]) r
theorem gf_dv (n : Nat) (c : Nat → Gf) (r y : Gf) : gf_e (n + 1) c y = gf_m (y ^^^ r) (gf_e n (gf_q (n + 1) c r) y) ^^^ gf_e (n + 1) c r := by
  induction n generalizing c with
  | zero => simp [gf_e, gf_m_0]
  | succ n ih =>
    have h := ih (fun k => c (k + 1))
    have e1 : gf_e (n + 1) (gf_q (n + 2) c r) y = gf_q (n + 2) c r 0 ^^^ gf_m y (gf_e n (gf_q (n + 1) (fun k => c (k + 1)) r) y) := by
      rw [gf_e]
      congr 2
      exact gf_e_congr (fun k _ => gf_q_s (n + 1) c r k) y
    rw [e1, gf_q_0]
    have e2 : ∀ z, gf_e (n + 1 + 1) c z = c 0 ^^^ gf_m z (gf_e (n + 1) (fun k => c (k + 1)) z) := fun z => rfl
    rw [e2 y, e2 r, h]
    generalize gf_e n (gf_q (n + 1) (fun k => c (k + 1)) r) y = E
    generalize gf_e (n + 1) (fun k => c (k + 1)) r = Q
    rw [gf_m_addr, gf_m_addr, gf_m_addl y r Q, gf_m_l y (y ^^^ r) E]
    rw [show gf_m y Q ^^^ gf_m r Q ^^^ gf_m (y ^^^ r) (gf_m y E) ^^^ (c 0 ^^^ gf_m r Q) = c 0 ^^^ (gf_m (y ^^^ r) (gf_m y E) ^^^ gf_m y Q) ^^^ (gf_m r Q ^^^ gf_m r Q) by ac_rfl, gf_xs, gf_x0]
theorem gf_q_all {n : Nat} {c : Nat → Gf} {r : Gf} (h : gf_e (n + 1) c r = 0#6) (hq : ∀ k, k < n → gf_q (n + 1) c r k = 0#6) : ∀ k, k ≤ n → c k = 0#6 := by
  intro k hk
  cases k with
  | zero =>
    cases n with
    | zero => simpa [gf_e, gf_m_0] using h
    | succ n =>
      have h0 := hq 0 (by omega)
      rw [gf_q_0] at h0
      rw [gf_e, h0, gf_m_0] at h
      simpa using h
  | succ k =>
    have h1 := hq k (by omega)
    by_cases q : k + 1 < n
    · rw [gf_q_n c r (by omega), hq (k + 1) q, gf_m_0, gf_x0] at h1
      exact h1
    · have e : k + 1 = n := by omega
      subst e
      unfold gf_q at h1
      rw [show k + 1 + 1 - 1 - k = 1 by omega] at h1
      simpa [gf_e, gf_m_0] using h1
theorem gf_c_eq1 (n i0 : Nat) : gf_c n (fun i => i == i0) ≤ 1 := by
  induction n with
  | zero => exact Nat.zero_le 1
  | succ n ih =>
    simp only [gf_c]
    by_cases h : n = i0
    · subst h
      have : gf_c n (fun i => i == n) = gf_c n (fun _ => false) := gf_c_congr (fun i hi => by simp; omega)
      rw [this]
      have h2 : gf_c n (fun _ => false) = 0 := by
        clear this ih
        induction n with
        | zero => rfl
        | succ n ih => simp [gf_c, ih]
      simp [h2]
    · simp [h, ih]
/-- no more roots than the degree -/
theorem gf_roots {n : Nat} {x : Nat → Gf} (hx : ∀ i j, i < n → j < n → x i = x j → i = j) : ∀ (d : Nat) (c : Nat → Gf), (∃ k, k ≤ d ∧ c k ≠ 0#6) → gf_c n (fun i => gf_e (d + 1) c (x i) == 0#6) ≤ d := by
  intro d
  induction d with
  | zero =>
    intro c ⟨k, hk, hc⟩
    have e : k = 0 := by omega
    subst e
    have : gf_c n (fun i => gf_e (0 + 1) c (x i) == 0#6) ≤ gf_c n (fun _ => false) := gf_c_le (fun i _ h => by
      simp [gf_e, gf_m_0] at h; exact absurd h hc)
    have h2 : ∀ n, gf_c n (fun _ => false) = 0 := by
      intro n
      induction n with
      | zero => rfl
      | succ n ih => simp [gf_c, ih]
    rw [h2] at this
    exact this
  | succ d ih =>
    intro c ⟨k, hk, hc⟩
    by_cases hz : gf_c n (fun i => gf_e (d + 1 + 1) c (x i) == 0#6) = 0
    · omega
    · obtain ⟨i0, hi0, hr⟩ := gf_c_pos (Nat.pos_of_ne_zero hz)
      have hr : gf_e (d + 1 + 1) c (x i0) = 0#6 := by simpa using hr
      have hq : ∃ k, k ≤ d ∧ gf_q (d + 1 + 1) c (x i0) k ≠ 0#6 := by
        apply Classical.byContradiction
        intro hn
        refine hc (gf_q_all hr (fun j hj => ?_) k hk)
        apply Classical.byContradiction
        intro hj2
        exact hn ⟨j, by omega, hj2⟩
      have h1 := ih (gf_q (d + 1 + 1) c (x i0)) hq
      have h2 := gf_c_or n (fun i => gf_e (d + 1) (gf_q (d + 1 + 1) c (x i0)) (x i) == 0#6) (fun i => i == i0)
      have h3 := gf_c_eq1 n i0
      have h4 := gf_c_le (n := n) (p := fun i => gf_e (d + 1 + 1) c (x i) == 0#6) (q := fun i => (gf_e (d + 1) (gf_q (d + 1 + 1) c (x i0)) (x i) == 0#6) || (i == i0)) (fun i hi h => by
        by_cases e : i = i0
        · simp [e]
        · have h : gf_e (d + 1 + 1) c (x i) = 0#6 := by simpa using h
          rw [gf_dv (d + 1) c (x i0) (x i), hr, gf_x0] at h
          rcases gf_z h with q | q
          · exact absurd (hx i i0 hi hi0 (gf_xe q)) e
          · simp [q])
      omega
/-- as many roots as the degree: each is simple -/
theorem gf_simple {n : Nat} {x : Nat → Gf} (hx : ∀ i j, i < n → j < n → x i = x j → i = j) {d : Nat} {c : Nat → Gf} (hc : ∃ k, k ≤ d + 1 ∧ c k ≠ 0#6) (hn : d + 1 ≤ gf_c n (fun i => gf_e (d + 1 + 1) c (x i) == 0#6)) {i0 : Nat} (hi0 : i0 < n) (hr : gf_e (d + 1 + 1) c (x i0) = 0#6) :
    gf_e (d + 1) (gf_q (d + 1 + 1) c (x i0)) (x i0) ≠ 0#6 := by
  intro h0
  obtain ⟨k, hk, hck⟩ := hc
  have hq : ∃ k, k ≤ d ∧ gf_q (d + 1 + 1) c (x i0) k ≠ 0#6 := by
    apply Classical.byContradiction
    intro hn
    refine hck (gf_q_all hr (fun j hj => ?_) k hk)
    apply Classical.byContradiction
    intro hj2
    exact hn ⟨j, by omega, hj2⟩
  have h1 := gf_roots hx d (gf_q (d + 1 + 1) c (x i0)) hq
  have h4 := gf_c_le (n := n) (p := fun i => gf_e (d + 1 + 1) c (x i) == 0#6) (q := fun i => gf_e (d + 1) (gf_q (d + 1 + 1) c (x i0)) (x i) == 0#6) (fun i hi h => by
    by_cases e : i = i0
    · subst e; simp [h0]
    · have h : gf_e (d + 1 + 1) c (x i) = 0#6 := by simpa using h
      rw [gf_dv (d + 1) c (x i0) (x i), hr, gf_x0] at h
      rcases gf_z h with q | q
      · exact absurd (hx i i0 hi hi0 (gf_xe q)) e
      · simp [q])
  omega
/-- the slope: the formal derivative, modulo 2 -/
def gf_sl (c : Nat → Gf) (k : Nat) : Gf := if k % 2 = 0 then c (k + 1) else 0#6
theorem gf_slope (n : Nat) (c : Nat → Gf) (r : Gf) : gf_e n (gf_q (n + 1) c r) r = gf_e n (gf_sl c) r := by
  induction n generalizing c with
  | zero => rfl
  | succ n ih =>
    have e1 : gf_e (n + 1) (gf_q (n + 2) c r) r = gf_q (n + 2) c r 0 ^^^ gf_m r (gf_e n (gf_q (n + 1) (fun k => c (k + 1)) r) r) := by
      rw [gf_e]
      congr 2
      exact gf_e_congr (fun k _ => gf_q_s (n + 1) c r k) r
    rw [e1, gf_q_0, ih, ← gf_e_sh, ← gf_e_add]
    refine gf_e_congr (fun k _ => ?_) r
    cases k with
    | zero => simp [gf_sh, gf_sl]
    | succ k =>
      show c (k + 1 + 1) ^^^ gf_sl (fun k => c (k + 1)) k = gf_sl c (k + 1)
      unfold gf_sl
      by_cases q : k % 2 = 0
      · rw [if_pos q, if_neg (by omega)]; exact gf_xs _
      · rw [if_neg q, if_pos (by omega)]; exact gf_x0 _
