/-! THE FIELD OF 64: six bits, sum = exclusive or, product modulo x^6 + x + 1. -/
abbrev Gf : Type := BitVec 6
def gf_x (a : Gf) : Gf := (a <<< 1) ^^^ (if a.getLsbD 5 then 3#6 else 0#6)
def gf_xk (a : Gf) : Nat → Gf
  | 0 => a
  | k + 1 => gf_x (gf_xk a k)
def gf_t (a b : Gf) (k : Nat) : Gf := if b.getLsbD k then gf_xk a k else 0#6
def gf_m (a b : Gf) : Gf := gf_t a b 0 ^^^ gf_t a b 1 ^^^ gf_t a b 2 ^^^ gf_t a b 3 ^^^ gf_t a b 4 ^^^ gf_t a b 5
theorem gf_all {P : Gf → Prop} (h : ∀ i : Fin 64, P (BitVec.ofFin i)) (a : Gf) : P a := h a.toFin
theorem gf_all2 {P : Gf → Gf → Prop} (h : ∀ i j : Fin 64, P (BitVec.ofFin i) (BitVec.ofFin j)) (a b : Gf) : P a b := h a.toFin b.toFin
set_option maxRecDepth 100000 in
theorem gf_x_add (a b : Gf) : gf_x (a ^^^ b) = gf_x a ^^^ gf_x b := gf_all2 (P := fun a b => gf_x (a ^^^ b) = gf_x a ^^^ gf_x b) (by decide +kernel) a b
theorem gf_xk_add (a b : Gf) (k : Nat) : gf_xk (a ^^^ b) k = gf_xk a k ^^^ gf_xk b k := by
  induction k with
  | zero => rfl
  | succ k ih => rw [gf_xk, ih, gf_x_add]; rfl
theorem gf_t_addl (a b c : Gf) (k : Nat) : gf_t (a ^^^ b) c k = gf_t a c k ^^^ gf_t b c k := by
  unfold gf_t
  cases c.getLsbD k
  · simp
  · simp [gf_xk_add]
theorem gf_t_addr (a b c : Gf) (k : Nat) : gf_t a (b ^^^ c) k = gf_t a b k ^^^ gf_t a c k := by
  unfold gf_t
  rw [BitVec.getLsbD_xor]
  cases b.getLsbD k <;> cases c.getLsbD k <;> simp
theorem gf_m_addl (a b c : Gf) : gf_m (a ^^^ b) c = gf_m a c ^^^ gf_m b c := by
  simp only [gf_m, gf_t_addl]
  ac_rfl
theorem gf_m_addr (a b c : Gf) : gf_m a (b ^^^ c) = gf_m a b ^^^ gf_m a c := by
  simp only [gf_m, gf_t_addr]
  ac_rfl
set_option maxRecDepth 100000 in
theorem gf_m_comm (a b : Gf) : gf_m a b = gf_m b a := gf_all2 (P := fun a b => gf_m a b = gf_m b a) (by decide +kernel) a b
set_option maxRecDepth 100000 in
theorem gf_m_x (a b : Gf) : gf_x (gf_m a b) = gf_m a (gf_x b) := gf_all2 (P := fun a b => gf_x (gf_m a b) = gf_m a (gf_x b)) (by decide +kernel) a b
theorem gf_m_xk (a b : Gf) (k : Nat) : gf_xk (gf_m a b) k = gf_m a (gf_xk b k) := by
  induction k with
  | zero => rfl
  | succ k ih => rw [gf_xk, ih, gf_m_x]; rfl
theorem gf_m_0 (a : Gf) : gf_m a 0#6 = 0#6 := by simp [gf_m, gf_t]
theorem gf_0_m (a : Gf) : gf_m 0#6 a = 0#6 := by rw [gf_m_comm]; exact gf_m_0 a
theorem gf_m_t (a b c : Gf) (k : Nat) : gf_t (gf_m a b) c k = gf_m a (gf_t b c k) := by
  unfold gf_t
  cases c.getLsbD k
  · simp [gf_m_0]
  · simp [gf_m_xk]
theorem gf_m_assoc (a b c : Gf) : gf_m (gf_m a b) c = gf_m a (gf_m b c) := by
  conv => lhs; unfold gf_m
  conv => rhs; rw [show gf_m b c = gf_t b c 0 ^^^ gf_t b c 1 ^^^ gf_t b c 2 ^^^ gf_t b c 3 ^^^ gf_t b c 4 ^^^ gf_t b c 5 from rfl]
  simp only [gf_m_addr]
  rw [← gf_m_t, ← gf_m_t, ← gf_m_t, ← gf_m_t, ← gf_m_t, ← gf_m_t]
  rfl
theorem gf_m_1 (a : Gf) : gf_m a 1#6 = a := gf_all (P := fun a => gf_m a 1#6 = a) (by decide +kernel) a
theorem gf_1_m (a : Gf) : gf_m 1#6 a = a := by rw [gf_m_comm]; exact gf_m_1 a
theorem gf_m_l (a b c : Gf) : gf_m a (gf_m b c) = gf_m b (gf_m a c) := by rw [← gf_m_assoc, gf_m_comm a b, gf_m_assoc]
/-- the power 62: 1 over it, and 0 of 0 -/
def gf_sq (a : Gf) : Gf := gf_m a a
def gf_i (a : Gf) : Gf := gf_m (gf_m (gf_m (gf_m (gf_sq a) (gf_sq (gf_sq a))) (gf_sq (gf_sq (gf_sq a)))) (gf_sq (gf_sq (gf_sq (gf_sq a))))) (gf_sq (gf_sq (gf_sq (gf_sq (gf_sq a)))))
theorem gf_i_0 : gf_i 0#6 = 0#6 := by decide +kernel
set_option maxRecDepth 100000 in
theorem gf_m_i (a : Gf) (h : a ≠ 0#6) : gf_m a (gf_i a) = 1#6 := gf_all (P := fun a => a ≠ 0#6 → gf_m a (gf_i a) = 1#6) (by decide +kernel) a h
theorem gf_i_m (a : Gf) (h : a ≠ 0#6) : gf_m (gf_i a) a = 1#6 := by rw [gf_m_comm]; exact gf_m_i a h
theorem gf_nz {a b : Gf} (ha : a ≠ 0#6) (hb : b ≠ 0#6) : gf_m a b ≠ 0#6 := by
  intro h
  have : gf_m (gf_i a) (gf_m a b) = b := by rw [← gf_m_assoc, gf_i_m a ha, gf_1_m]
  rw [h, gf_m_0] at this
  exact hb this.symm
theorem gf_z {a b : Gf} (h : gf_m a b = 0#6) : a = 0#6 ∨ b = 0#6 := by
  by_cases ha : a = 0#6
  · exact Or.inl ha
  · by_cases hb : b = 0#6
    · exact Or.inr hb
    · exact absurd h (gf_nz ha hb)
theorem gf_i_nz {a : Gf} (h : a ≠ 0#6) : gf_i a ≠ 0#6 := by
  intro q
  have := gf_m_i a h
  rw [q, gf_m_0] at this
  exact absurd this (by decide)
theorem gf_cancel {a b c : Gf} (ha : a ≠ 0#6) (h : gf_m a b = gf_m a c) : b = c := by
  have e : gf_m (gf_i a) (gf_m a b) = gf_m (gf_i a) (gf_m a c) := by rw [h]
  rwa [← gf_m_assoc, ← gf_m_assoc, gf_i_m a ha, gf_1_m, gf_1_m] at e
theorem gf_xs (a : Gf) : a ^^^ a = 0#6 := BitVec.xor_self
theorem gf_x0 (a : Gf) : a ^^^ 0#6 = a := BitVec.xor_zero
theorem gf_0x (a : Gf) : 0#6 ^^^ a = a := BitVec.zero_xor
theorem gf_xe {a b : Gf} (h : a ^^^ b = 0#6) : a = b := by
  have : a ^^^ b ^^^ b = 0#6 ^^^ b := by rw [h]
  rwa [BitVec.xor_assoc, gf_xs, gf_x0, gf_0x] at this
theorem gf_xn {a b : Gf} (h : a ≠ b) : a ^^^ b ≠ 0#6 := fun q => h (gf_xe q)
theorem gf_xx (a b : Gf) : a ^^^ b ^^^ b = a := by rw [BitVec.xor_assoc, gf_xs, gf_x0]
theorem gf_x4 (a b c d : Gf) : (a ^^^ b) ^^^ (c ^^^ d) = (a ^^^ c) ^^^ (b ^^^ d) := by ac_rfl
/-! powers -/
def gf_p (a : Gf) : Nat → Gf
  | 0 => 1#6
  | k + 1 => gf_m a (gf_p a k)
theorem gf_p_add (a : Gf) (j k : Nat) : gf_p a (j + k) = gf_m (gf_p a j) (gf_p a k) := by
  induction j with
  | zero => rw [Nat.zero_add]; exact (gf_1_m _).symm
  | succ j ih => rw [Nat.succ_add, gf_p, ih, gf_p, gf_m_assoc]
theorem gf_p_nz {a : Gf} (h : a ≠ 0#6) (k : Nat) : gf_p a k ≠ 0#6 := by
  induction k with
  | zero => show (1#6 : Gf) ≠ 0#6; decide
  | succ k ih => exact gf_nz h ih
theorem gf_p_m (a b : Gf) (k : Nat) : gf_p (gf_m a b) k = gf_m (gf_p a k) (gf_p b k) := by
  induction k with
  | zero => exact (gf_1_m _).symm
  | succ k ih => rw [gf_p, ih, gf_p, gf_p, gf_m_assoc, gf_m_assoc, gf_m_l b]
theorem gf_p_1 (k : Nat) : gf_p 1#6 k = 1#6 := by
  induction k with
  | zero => rfl
  | succ k ih => rw [gf_p, ih, gf_1_m]
theorem gf_p_p (a : Gf) (j k : Nat) : gf_p (gf_p a j) k = gf_p a (j * k) := by
  induction k with
  | zero => rfl
  | succ k ih => rw [gf_p, ih, Nat.mul_succ, Nat.add_comm, gf_p_add]
/-! sums over 0 .. n - 1 -/
def gf_s : Nat → (Nat → Gf) → Gf
  | 0, _ => 0#6
  | n + 1, f => gf_s n f ^^^ f n
theorem gf_s_congr {n : Nat} {f g : Nat → Gf} (h : ∀ i, i < n → f i = g i) : gf_s n f = gf_s n g := by
  induction n with
  | zero => rfl
  | succ n ih => rw [gf_s, gf_s, ih (fun i hi => h i (by omega)), h n (by omega)]
theorem gf_s_zero {n : Nat} {f : Nat → Gf} (h : ∀ i, i < n → f i = 0#6) : gf_s n f = 0#6 := by
  induction n with
  | zero => rfl
  | succ n ih => rw [gf_s, ih (fun i hi => h i (by omega)), h n (by omega)]; exact gf_xs _
theorem gf_s_add (n : Nat) (f g : Nat → Gf) : gf_s n (fun i => f i ^^^ g i) = gf_s n f ^^^ gf_s n g := by
  induction n with
  | zero => exact (gf_xs _).symm
  | succ n ih => rw [gf_s, ih, gf_s, gf_s, gf_x4]
theorem gf_s_m (n : Nat) (a : Gf) (f : Nat → Gf) : gf_s n (fun i => gf_m a (f i)) = gf_m a (gf_s n f) := by
  induction n with
  | zero => exact (gf_m_0 a).symm
  | succ n ih => rw [gf_s, ih, gf_s, gf_m_addr]
theorem gf_s_swap (n k : Nat) (f : Nat → Nat → Gf) : gf_s n (fun i => gf_s k (fun j => f i j)) = gf_s k (fun j => gf_s n (fun i => f i j)) := by
  induction n with
  | zero => exact (gf_s_zero (fun _ _ => rfl)).symm
  | succ n ih => simp only [gf_s]; rw [ih, gf_s_add]
theorem gf_s_one {n i0 : Nat} {f : Nat → Gf} (h : i0 < n) (hz : ∀ i, i < n → i ≠ i0 → f i = 0#6) : gf_s n f = f i0 := by
  induction n with
  | zero => omega
  | succ n ih =>
    rw [gf_s]
    by_cases q : i0 = n
    · subst q
      rw [gf_s_zero (fun i hi => hz i (by omega) (by omega)), gf_0x]
    · rw [ih (by omega) (fun i hi => hz i (by omega)), hz n (by omega) (fun e => q e.symm), gf_x0]
theorem gf_s_head (n : Nat) (f : Nat → Gf) : gf_s (n + 1) f = f 0 ^^^ gf_s n (fun i => f (i + 1)) := by
  induction n with
  | zero => simp [gf_s]
  | succ n ih => rw [gf_s, ih, gf_s, BitVec.xor_assoc]
theorem gf_s_more {n k : Nat} {f : Nat → Gf} (hz : ∀ i, n ≤ i → i < k → f i = 0#6) (h : n ≤ k) : gf_s k f = gf_s n f := by
  induction k with
  | zero => rw [show n = 0 by omega]
  | succ k ih =>
    by_cases q : n = k + 1
    · rw [q]
    · rw [gf_s, ih (fun i h1 h2 => hz i h1 (by omega)) (by omega), hz k (by omega) (by omega), gf_x0]
theorem gf_s_rev (n : Nat) (f : Nat → Gf) : gf_s n (fun i => f (n - 1 - i)) = gf_s n f := by
  induction n generalizing f with
  | zero => rfl
  | succ n ih =>
    rw [gf_s_head, gf_s, BitVec.xor_comm]
    congr 1
    rw [← ih f]
    exact gf_s_congr (fun i hi => by congr 1; omega)
/-! how many of 0 .. n - 1 -/
def gf_c : Nat → (Nat → Bool) → Nat
  | 0, _ => 0
  | n + 1, p => gf_c n p + (if p n then 1 else 0)
theorem gf_c_le {n : Nat} {p q : Nat → Bool} (h : ∀ i, i < n → p i = true → q i = true) : gf_c n p ≤ gf_c n q := by
  induction n with
  | zero => exact Nat.le_refl 0
  | succ n ih =>
    have h1 := ih (fun i hi => h i (by omega))
    have h2 := h n (by omega)
    simp only [gf_c]
    cases hp : p n <;> cases hq : q n <;> simp_all <;> omega
theorem gf_c_congr {n : Nat} {p q : Nat → Bool} (h : ∀ i, i < n → p i = q i) : gf_c n p = gf_c n q := by
  induction n with
  | zero => rfl
  | succ n ih => simp only [gf_c]; rw [ih (fun i hi => h i (by omega)), h n (by omega)]
theorem gf_c_lt {n i0 : Nat} {p q : Nat → Bool} (h : ∀ i, i < n → p i = true → q i = true) (hi : i0 < n) (hp : p i0 = false) (hq : q i0 = true) : gf_c n p < gf_c n q := by
  induction n with
  | zero => omega
  | succ n ih =>
    simp only [gf_c]
    by_cases e : i0 = n
    · subst e
      have := gf_c_le (n := i0) (p := p) (q := q) (fun i hi => h i (by omega))
      rw [hp, hq]; simp; omega
    · have h1 := ih (fun i hi => h i (by omega)) (by omega)
      have h2 := h n (by omega)
      cases hp : p n <;> cases hq : q n <;> simp_all <;> omega
theorem gf_c_pos {n : Nat} {p : Nat → Bool} (h : 0 < gf_c n p) : ∃ i, i < n ∧ p i = true := by
  induction n with
  | zero => simp [gf_c] at h
  | succ n ih =>
    cases hp : p n with
    | true => exact ⟨n, by omega, hp⟩
    | false =>
      simp [gf_c, hp] at h
      obtain ⟨i, h1, h2⟩ := ih h
      exact ⟨i, by omega, h2⟩
theorem gf_c_none {n : Nat} {p : Nat → Bool} (h : gf_c n p = 0) : ∀ i, i < n → p i = false := by
  intro i hi
  cases hp : p i with
  | false => rfl
  | true =>
    have := gf_c_lt (n := n) (i0 := i) (p := fun _ => false) (q := p) (fun _ _ h => by cases h) hi rfl hp
    omega
theorem gf_c_or (n : Nat) (p q : Nat → Bool) : gf_c n (fun i => p i || q i) ≤ gf_c n p + gf_c n q := by
  induction n with
  | zero => exact Nat.le_refl 0
  | succ n ih => by_cases h1 : p n = true <;> by_cases h2 : q n = true <;> simp [gf_c, h1, h2] <;> omega
theorem gf_c_dis {n : Nat} {p q : Nat → Bool} (h : ∀ i, i < n → (p i && q i) = false) : gf_c n (fun i => p i || q i) = gf_c n p + gf_c n q := by
  induction n with
  | zero => rfl
  | succ n ih =>
    have h1 := ih (fun i hi => h i (by omega))
    have h2 := h n (by omega)
    by_cases q1 : p n = true <;> by_cases q2 : q n = true <;> simp [gf_c, q1, q2, h1] at h2 ⊢ <;> omega
theorem gf_c_max (n : Nat) (p : Nat → Bool) : gf_c n p ≤ n := by
  induction n with
  | zero => exact Nat.le_refl 0
  | succ n ih => simp only [gf_c]; split <;> omega
