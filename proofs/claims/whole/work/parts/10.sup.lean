/-! The images' own words. -/
def im_lt {α β : Type} (e : α) (k : α → Option β) : Option β := k e
theorem im_lt_u {α β : Type} {e : α} {k : α → Option β} {r : β} (h : im_lt e k = some r) (v : α) (ev : v = e) : k v = some r := by subst ev; exact h
def im_as {β : Type} (c : Prop) [Decidable c] (k : Option β) : Option β := if c then k else none
theorem im_as_u {β : Type} {c : Prop} [Decidable c] {k : Option β} {r : β} (h : im_as c k = some r) : c ∧ k = some r := by
  unfold im_as at h
  by_cases q : c
  · rw [if_pos q] at h; exact ⟨q, h⟩
  · rw [if_neg q] at h; cases h
def im_ld {α β : Type} (n : Nat) (f : Nat → α) (i : Int32) (k : α → Option β) : Option β := if i < 0 ∨ n ≤ i.toNatClampNeg then none else k (f i.toNatClampNeg)
theorem im_ld_u {α β : Type} {n : Nat} {f : Nat → α} {i : Int32} {k : α → Option β} {r : β} (h : im_ld n f i k = some r) : vp_in i n ∧ ∀ v, v = f i.toNatClampNeg → k v = some r := by
  unfold im_ld at h
  by_cases q : i < 0 ∨ n ≤ i.toNatClampNeg
  · rw [if_pos q] at h; cases h
  · rw [if_neg q] at h; exact ⟨q, fun v ev => by rw [ev]; exact h⟩
def im_st {β : Type} (n : Nat) (f : Nat → Int32) (i x : Int32) (k : (Nat → Int32) → Option β) : Option β := if i < 0 ∨ n ≤ i.toNatClampNeg then none else k (upd f i.toNatClampNeg x)
theorem im_st_u {β : Type} {n : Nat} {f : Nat → Int32} {i x : Int32} {k : (Nat → Int32) → Option β} {r : β} (h : im_st n f i x k = some r) : vp_in i n ∧ ∀ g, g = upd f i.toNatClampNeg x → k g = some r := by
  unfold im_st at h
  by_cases q : i < 0 ∨ n ≤ i.toNatClampNeg
  · rw [if_pos q] at h; cases h
  · rw [if_neg q] at h; exact ⟨q, fun v ev => by rw [ev]; exact h⟩
def im_stL {β : Type} (n : Nat) (f : Nat → Int64) (i : Int32) (x : Int64) (k : (Nat → Int64) → Option β) : Option β := if i < 0 ∨ n ≤ i.toNatClampNeg then none else k (vp_updL f i.toNatClampNeg x)
theorem im_stL_u {β : Type} {n : Nat} {f : Nat → Int64} {i : Int32} {x : Int64} {k : (Nat → Int64) → Option β} {r : β} (h : im_stL n f i x k = some r) : vp_in i n ∧ ∀ g, g = vp_updL f i.toNatClampNeg x → k g = some r := by
  unfold im_stL at h
  by_cases q : i < 0 ∨ n ≤ i.toNatClampNeg
  · rw [if_pos q] at h; cases h
  · rw [if_neg q] at h; exact ⟨q, fun v ev => by rw [ev]; exact h⟩
def im_cp {β : Type} (n0 n1 : Nat) (f g : Nat → Int32) (sp dp n : Int32) (k : (Nat → Int32) → Option β) : Option β :=
  if ¬ sp < 0 ∧ ¬ dp < 0 ∧ ¬ n < 0 ∧ sp.toNatClampNeg + n.toNatClampNeg ≤ n0 ∧ dp.toNatClampNeg + n.toNatClampNeg ≤ n1 then k (va_cpy f g sp.toNatClampNeg dp.toNatClampNeg n.toNatClampNeg) else none
theorem im_cp_u {β : Type} {n0 n1 : Nat} {f g : Nat → Int32} {sp dp n : Int32} {k : (Nat → Int32) → Option β} {r : β} (h : im_cp n0 n1 f g sp dp n k = some r) :
    ¬ sp < 0 ∧ ¬ dp < 0 ∧ ¬ n < 0 ∧ sp.toNatClampNeg + n.toNatClampNeg ≤ n0 ∧ dp.toNatClampNeg + n.toNatClampNeg ≤ n1 ∧ ∀ z, z = va_cpy f g sp.toNatClampNeg dp.toNatClampNeg n.toNatClampNeg → k z = some r := by
  unfold im_cp at h
  by_cases q : ¬ sp < 0 ∧ ¬ dp < 0 ∧ ¬ n < 0 ∧ sp.toNatClampNeg + n.toNatClampNeg ≤ n0 ∧ dp.toNatClampNeg + n.toNatClampNeg ≤ n1
  · rw [if_pos q] at h; exact ⟨q.1, q.2.1, q.2.2.1, q.2.2.2.1, q.2.2.2.2, fun v ev => by rw [ev]; exact h⟩
  · rw [if_neg q] at h; cases h
theorem im_t {β : Type} {c : Prop} [Decidable c] {a b : Option β} {r : β} (q : c) (h : (if c then a else b) = some r) : a = some r := by rwa [if_pos q] at h
theorem im_f {β : Type} {c : Prop} [Decidable c] {a b : Option β} {r : β} (q : ¬ c) (h : (if c then a else b) = some r) : b = some r := by rwa [if_neg q] at h
theorem im_nb {x : Int32} (h : x = 0 ∨ x = 1) : vp_nar .boolean x = x := by rcases h with rfl | rfl <;> decide
theorem im_nz {x : Int32} (h : x = 0 ∨ x = 1) : narrow .boolean (.int x) = .int x := by rcases h with rfl | rfl <;> rfl
theorem im_fz {x : Int32} (h : x = 0 ∨ x = 1) : fits .boolean (.int x) = true := by rcases h with rfl | rfl <;> rfl
theorem im_Q {p : Program} {l : Launch} {e : Env} {R : Room} {s : State} {m : MethodId} {args : Array Value} {below : List Frame} {meth : Method} {c : Code} {H : Heap} {locs : List Loc} {cells slots : Nat} {Q0 : State → Prop} {g : JFrame}
    (k : ∀ Q : State → Prop, Q = Q0 → W p l e R s m args below meth c H locs cells slots Q g) : W p l e R s m args below meth c H locs cells slots Q0 g := k Q0 rfl
def im_j0 {β : Type} (k : Option β) (t : Option β → Option β) : Option β := t k
theorem im_j0_u {β : Type} {k : Option β} {t : Option β → Option β} {r : β} {P : Prop} {G : Prop} (h : im_j0 k t = some r) (hJ : k = some r → P) (hT : ∀ K : Option β, (K = some r → P) → t K = some r → G) : G := hT k hJ h
def im_j1 {A0 β : Type} (k : A0 → Option β) (t : (A0 → Option β) → Option β) : Option β := t k
theorem im_j1_u {A0 β : Type} {k : A0 → Option β} {t : (A0 → Option β) → Option β} {r : β} {P : A0 → Prop} {G : Prop} (h : im_j1 k t = some r) (hJ : ∀ (x0 : A0), k x0 = some r → P x0) (hT : ∀ K : A0 → Option β, (∀ (x0 : A0), K x0 = some r → P x0) → t K = some r → G) : G := hT k hJ h
def im_b1 {A0 β : Type} (x : Option (A0)) (k : A0 → Option β) : Option β := x.bind (fun w => k (w))
theorem im_b1_u {A0 β : Type} {x : Option (A0)} {k : A0 → Option β} {r : β} (h : im_b1 x k = some r) : ∃ (x0 : A0), x = some x0 ∧ k x0 = some r := by
  obtain ⟨w, h1, h2⟩ := Option.bind_eq_some_iff.mp h
  exact ⟨w, h1, h2⟩
def im_j2 {A0 A1 β : Type} (k : A0 → A1 → Option β) (t : (A0 → A1 → Option β) → Option β) : Option β := t k
theorem im_j2_u {A0 A1 β : Type} {k : A0 → A1 → Option β} {t : (A0 → A1 → Option β) → Option β} {r : β} {P : A0 → A1 → Prop} {G : Prop} (h : im_j2 k t = some r) (hJ : ∀ (x0 : A0) (x1 : A1), k x0 x1 = some r → P x0 x1) (hT : ∀ K : A0 → A1 → Option β, (∀ (x0 : A0) (x1 : A1), K x0 x1 = some r → P x0 x1) → t K = some r → G) : G := hT k hJ h
def im_b2 {A0 A1 β : Type} (x : Option (A0 × A1)) (k : A0 → A1 → Option β) : Option β := x.bind (fun w => k (w.1) (w.2))
theorem im_b2_u {A0 A1 β : Type} {x : Option (A0 × A1)} {k : A0 → A1 → Option β} {r : β} (h : im_b2 x k = some r) : ∃ (x0 : A0) (x1 : A1), x = some (x0, x1) ∧ k x0 x1 = some r := by
  obtain ⟨w, h1, h2⟩ := Option.bind_eq_some_iff.mp h
  exact ⟨w.1, w.2, h1, h2⟩
def im_j3 {A0 A1 A2 β : Type} (k : A0 → A1 → A2 → Option β) (t : (A0 → A1 → A2 → Option β) → Option β) : Option β := t k
theorem im_j3_u {A0 A1 A2 β : Type} {k : A0 → A1 → A2 → Option β} {t : (A0 → A1 → A2 → Option β) → Option β} {r : β} {P : A0 → A1 → A2 → Prop} {G : Prop} (h : im_j3 k t = some r) (hJ : ∀ (x0 : A0) (x1 : A1) (x2 : A2), k x0 x1 x2 = some r → P x0 x1 x2) (hT : ∀ K : A0 → A1 → A2 → Option β, (∀ (x0 : A0) (x1 : A1) (x2 : A2), K x0 x1 x2 = some r → P x0 x1 x2) → t K = some r → G) : G := hT k hJ h
def im_b3 {A0 A1 A2 β : Type} (x : Option (A0 × A1 × A2)) (k : A0 → A1 → A2 → Option β) : Option β := x.bind (fun w => k (w.1) (w.2.1) (w.2.2))
theorem im_b3_u {A0 A1 A2 β : Type} {x : Option (A0 × A1 × A2)} {k : A0 → A1 → A2 → Option β} {r : β} (h : im_b3 x k = some r) : ∃ (x0 : A0) (x1 : A1) (x2 : A2), x = some (x0, x1, x2) ∧ k x0 x1 x2 = some r := by
  obtain ⟨w, h1, h2⟩ := Option.bind_eq_some_iff.mp h
  exact ⟨w.1, w.2.1, w.2.2, h1, h2⟩
def im_j4 {A0 A1 A2 A3 β : Type} (k : A0 → A1 → A2 → A3 → Option β) (t : (A0 → A1 → A2 → A3 → Option β) → Option β) : Option β := t k
theorem im_j4_u {A0 A1 A2 A3 β : Type} {k : A0 → A1 → A2 → A3 → Option β} {t : (A0 → A1 → A2 → A3 → Option β) → Option β} {r : β} {P : A0 → A1 → A2 → A3 → Prop} {G : Prop} (h : im_j4 k t = some r) (hJ : ∀ (x0 : A0) (x1 : A1) (x2 : A2) (x3 : A3), k x0 x1 x2 x3 = some r → P x0 x1 x2 x3) (hT : ∀ K : A0 → A1 → A2 → A3 → Option β, (∀ (x0 : A0) (x1 : A1) (x2 : A2) (x3 : A3), K x0 x1 x2 x3 = some r → P x0 x1 x2 x3) → t K = some r → G) : G := hT k hJ h
def im_b4 {A0 A1 A2 A3 β : Type} (x : Option (A0 × A1 × A2 × A3)) (k : A0 → A1 → A2 → A3 → Option β) : Option β := x.bind (fun w => k (w.1) (w.2.1) (w.2.2.1) (w.2.2.2))
theorem im_b4_u {A0 A1 A2 A3 β : Type} {x : Option (A0 × A1 × A2 × A3)} {k : A0 → A1 → A2 → A3 → Option β} {r : β} (h : im_b4 x k = some r) : ∃ (x0 : A0) (x1 : A1) (x2 : A2) (x3 : A3), x = some (x0, x1, x2, x3) ∧ k x0 x1 x2 x3 = some r := by
  obtain ⟨w, h1, h2⟩ := Option.bind_eq_some_iff.mp h
  exact ⟨w.1, w.2.1, w.2.2.1, w.2.2.2, h1, h2⟩
def im_j5 {A0 A1 A2 A3 A4 β : Type} (k : A0 → A1 → A2 → A3 → A4 → Option β) (t : (A0 → A1 → A2 → A3 → A4 → Option β) → Option β) : Option β := t k
theorem im_j5_u {A0 A1 A2 A3 A4 β : Type} {k : A0 → A1 → A2 → A3 → A4 → Option β} {t : (A0 → A1 → A2 → A3 → A4 → Option β) → Option β} {r : β} {P : A0 → A1 → A2 → A3 → A4 → Prop} {G : Prop} (h : im_j5 k t = some r) (hJ : ∀ (x0 : A0) (x1 : A1) (x2 : A2) (x3 : A3) (x4 : A4), k x0 x1 x2 x3 x4 = some r → P x0 x1 x2 x3 x4) (hT : ∀ K : A0 → A1 → A2 → A3 → A4 → Option β, (∀ (x0 : A0) (x1 : A1) (x2 : A2) (x3 : A3) (x4 : A4), K x0 x1 x2 x3 x4 = some r → P x0 x1 x2 x3 x4) → t K = some r → G) : G := hT k hJ h
def im_b5 {A0 A1 A2 A3 A4 β : Type} (x : Option (A0 × A1 × A2 × A3 × A4)) (k : A0 → A1 → A2 → A3 → A4 → Option β) : Option β := x.bind (fun w => k (w.1) (w.2.1) (w.2.2.1) (w.2.2.2.1) (w.2.2.2.2))
theorem im_b5_u {A0 A1 A2 A3 A4 β : Type} {x : Option (A0 × A1 × A2 × A3 × A4)} {k : A0 → A1 → A2 → A3 → A4 → Option β} {r : β} (h : im_b5 x k = some r) : ∃ (x0 : A0) (x1 : A1) (x2 : A2) (x3 : A3) (x4 : A4), x = some (x0, x1, x2, x3, x4) ∧ k x0 x1 x2 x3 x4 = some r := by
  obtain ⟨w, h1, h2⟩ := Option.bind_eq_some_iff.mp h
  exact ⟨w.1, w.2.1, w.2.2.1, w.2.2.2.1, w.2.2.2.2, h1, h2⟩
def im_j6 {A0 A1 A2 A3 A4 A5 β : Type} (k : A0 → A1 → A2 → A3 → A4 → A5 → Option β) (t : (A0 → A1 → A2 → A3 → A4 → A5 → Option β) → Option β) : Option β := t k
theorem im_j6_u {A0 A1 A2 A3 A4 A5 β : Type} {k : A0 → A1 → A2 → A3 → A4 → A5 → Option β} {t : (A0 → A1 → A2 → A3 → A4 → A5 → Option β) → Option β} {r : β} {P : A0 → A1 → A2 → A3 → A4 → A5 → Prop} {G : Prop} (h : im_j6 k t = some r) (hJ : ∀ (x0 : A0) (x1 : A1) (x2 : A2) (x3 : A3) (x4 : A4) (x5 : A5), k x0 x1 x2 x3 x4 x5 = some r → P x0 x1 x2 x3 x4 x5) (hT : ∀ K : A0 → A1 → A2 → A3 → A4 → A5 → Option β, (∀ (x0 : A0) (x1 : A1) (x2 : A2) (x3 : A3) (x4 : A4) (x5 : A5), K x0 x1 x2 x3 x4 x5 = some r → P x0 x1 x2 x3 x4 x5) → t K = some r → G) : G := hT k hJ h
def im_b6 {A0 A1 A2 A3 A4 A5 β : Type} (x : Option (A0 × A1 × A2 × A3 × A4 × A5)) (k : A0 → A1 → A2 → A3 → A4 → A5 → Option β) : Option β := x.bind (fun w => k (w.1) (w.2.1) (w.2.2.1) (w.2.2.2.1) (w.2.2.2.2.1) (w.2.2.2.2.2))
theorem im_b6_u {A0 A1 A2 A3 A4 A5 β : Type} {x : Option (A0 × A1 × A2 × A3 × A4 × A5)} {k : A0 → A1 → A2 → A3 → A4 → A5 → Option β} {r : β} (h : im_b6 x k = some r) : ∃ (x0 : A0) (x1 : A1) (x2 : A2) (x3 : A3) (x4 : A4) (x5 : A5), x = some (x0, x1, x2, x3, x4, x5) ∧ k x0 x1 x2 x3 x4 x5 = some r := by
  obtain ⟨w, h1, h2⟩ := Option.bind_eq_some_iff.mp h
  exact ⟨w.1, w.2.1, w.2.2.1, w.2.2.2.1, w.2.2.2.2.1, w.2.2.2.2.2, h1, h2⟩
def im_j7 {A0 A1 A2 A3 A4 A5 A6 β : Type} (k : A0 → A1 → A2 → A3 → A4 → A5 → A6 → Option β) (t : (A0 → A1 → A2 → A3 → A4 → A5 → A6 → Option β) → Option β) : Option β := t k
theorem im_j7_u {A0 A1 A2 A3 A4 A5 A6 β : Type} {k : A0 → A1 → A2 → A3 → A4 → A5 → A6 → Option β} {t : (A0 → A1 → A2 → A3 → A4 → A5 → A6 → Option β) → Option β} {r : β} {P : A0 → A1 → A2 → A3 → A4 → A5 → A6 → Prop} {G : Prop} (h : im_j7 k t = some r) (hJ : ∀ (x0 : A0) (x1 : A1) (x2 : A2) (x3 : A3) (x4 : A4) (x5 : A5) (x6 : A6), k x0 x1 x2 x3 x4 x5 x6 = some r → P x0 x1 x2 x3 x4 x5 x6) (hT : ∀ K : A0 → A1 → A2 → A3 → A4 → A5 → A6 → Option β, (∀ (x0 : A0) (x1 : A1) (x2 : A2) (x3 : A3) (x4 : A4) (x5 : A5) (x6 : A6), K x0 x1 x2 x3 x4 x5 x6 = some r → P x0 x1 x2 x3 x4 x5 x6) → t K = some r → G) : G := hT k hJ h
def im_b7 {A0 A1 A2 A3 A4 A5 A6 β : Type} (x : Option (A0 × A1 × A2 × A3 × A4 × A5 × A6)) (k : A0 → A1 → A2 → A3 → A4 → A5 → A6 → Option β) : Option β := x.bind (fun w => k (w.1) (w.2.1) (w.2.2.1) (w.2.2.2.1) (w.2.2.2.2.1) (w.2.2.2.2.2.1) (w.2.2.2.2.2.2))
theorem im_b7_u {A0 A1 A2 A3 A4 A5 A6 β : Type} {x : Option (A0 × A1 × A2 × A3 × A4 × A5 × A6)} {k : A0 → A1 → A2 → A3 → A4 → A5 → A6 → Option β} {r : β} (h : im_b7 x k = some r) : ∃ (x0 : A0) (x1 : A1) (x2 : A2) (x3 : A3) (x4 : A4) (x5 : A5) (x6 : A6), x = some (x0, x1, x2, x3, x4, x5, x6) ∧ k x0 x1 x2 x3 x4 x5 x6 = some r := by
  obtain ⟨w, h1, h2⟩ := Option.bind_eq_some_iff.mp h
  exact ⟨w.1, w.2.1, w.2.2.1, w.2.2.2.1, w.2.2.2.2.1, w.2.2.2.2.2.1, w.2.2.2.2.2.2, h1, h2⟩
def im_j8 {A0 A1 A2 A3 A4 A5 A6 A7 β : Type} (k : A0 → A1 → A2 → A3 → A4 → A5 → A6 → A7 → Option β) (t : (A0 → A1 → A2 → A3 → A4 → A5 → A6 → A7 → Option β) → Option β) : Option β := t k
theorem im_j8_u {A0 A1 A2 A3 A4 A5 A6 A7 β : Type} {k : A0 → A1 → A2 → A3 → A4 → A5 → A6 → A7 → Option β} {t : (A0 → A1 → A2 → A3 → A4 → A5 → A6 → A7 → Option β) → Option β} {r : β} {P : A0 → A1 → A2 → A3 → A4 → A5 → A6 → A7 → Prop} {G : Prop} (h : im_j8 k t = some r) (hJ : ∀ (x0 : A0) (x1 : A1) (x2 : A2) (x3 : A3) (x4 : A4) (x5 : A5) (x6 : A6) (x7 : A7), k x0 x1 x2 x3 x4 x5 x6 x7 = some r → P x0 x1 x2 x3 x4 x5 x6 x7) (hT : ∀ K : A0 → A1 → A2 → A3 → A4 → A5 → A6 → A7 → Option β, (∀ (x0 : A0) (x1 : A1) (x2 : A2) (x3 : A3) (x4 : A4) (x5 : A5) (x6 : A6) (x7 : A7), K x0 x1 x2 x3 x4 x5 x6 x7 = some r → P x0 x1 x2 x3 x4 x5 x6 x7) → t K = some r → G) : G := hT k hJ h
def im_b8 {A0 A1 A2 A3 A4 A5 A6 A7 β : Type} (x : Option (A0 × A1 × A2 × A3 × A4 × A5 × A6 × A7)) (k : A0 → A1 → A2 → A3 → A4 → A5 → A6 → A7 → Option β) : Option β := x.bind (fun w => k (w.1) (w.2.1) (w.2.2.1) (w.2.2.2.1) (w.2.2.2.2.1) (w.2.2.2.2.2.1) (w.2.2.2.2.2.2.1) (w.2.2.2.2.2.2.2))
theorem im_b8_u {A0 A1 A2 A3 A4 A5 A6 A7 β : Type} {x : Option (A0 × A1 × A2 × A3 × A4 × A5 × A6 × A7)} {k : A0 → A1 → A2 → A3 → A4 → A5 → A6 → A7 → Option β} {r : β} (h : im_b8 x k = some r) : ∃ (x0 : A0) (x1 : A1) (x2 : A2) (x3 : A3) (x4 : A4) (x5 : A5) (x6 : A6) (x7 : A7), x = some (x0, x1, x2, x3, x4, x5, x6, x7) ∧ k x0 x1 x2 x3 x4 x5 x6 x7 = some r := by
  obtain ⟨w, h1, h2⟩ := Option.bind_eq_some_iff.mp h
  exact ⟨w.1, w.2.1, w.2.2.1, w.2.2.2.1, w.2.2.2.2.1, w.2.2.2.2.2.1, w.2.2.2.2.2.2.1, w.2.2.2.2.2.2.2, h1, h2⟩
def im_j9 {A0 A1 A2 A3 A4 A5 A6 A7 A8 β : Type} (k : A0 → A1 → A2 → A3 → A4 → A5 → A6 → A7 → A8 → Option β) (t : (A0 → A1 → A2 → A3 → A4 → A5 → A6 → A7 → A8 → Option β) → Option β) : Option β := t k
theorem im_j9_u {A0 A1 A2 A3 A4 A5 A6 A7 A8 β : Type} {k : A0 → A1 → A2 → A3 → A4 → A5 → A6 → A7 → A8 → Option β} {t : (A0 → A1 → A2 → A3 → A4 → A5 → A6 → A7 → A8 → Option β) → Option β} {r : β} {P : A0 → A1 → A2 → A3 → A4 → A5 → A6 → A7 → A8 → Prop} {G : Prop} (h : im_j9 k t = some r) (hJ : ∀ (x0 : A0) (x1 : A1) (x2 : A2) (x3 : A3) (x4 : A4) (x5 : A5) (x6 : A6) (x7 : A7) (x8 : A8), k x0 x1 x2 x3 x4 x5 x6 x7 x8 = some r → P x0 x1 x2 x3 x4 x5 x6 x7 x8) (hT : ∀ K : A0 → A1 → A2 → A3 → A4 → A5 → A6 → A7 → A8 → Option β, (∀ (x0 : A0) (x1 : A1) (x2 : A2) (x3 : A3) (x4 : A4) (x5 : A5) (x6 : A6) (x7 : A7) (x8 : A8), K x0 x1 x2 x3 x4 x5 x6 x7 x8 = some r → P x0 x1 x2 x3 x4 x5 x6 x7 x8) → t K = some r → G) : G := hT k hJ h
def im_b9 {A0 A1 A2 A3 A4 A5 A6 A7 A8 β : Type} (x : Option (A0 × A1 × A2 × A3 × A4 × A5 × A6 × A7 × A8)) (k : A0 → A1 → A2 → A3 → A4 → A5 → A6 → A7 → A8 → Option β) : Option β := x.bind (fun w => k (w.1) (w.2.1) (w.2.2.1) (w.2.2.2.1) (w.2.2.2.2.1) (w.2.2.2.2.2.1) (w.2.2.2.2.2.2.1) (w.2.2.2.2.2.2.2.1) (w.2.2.2.2.2.2.2.2))
theorem im_b9_u {A0 A1 A2 A3 A4 A5 A6 A7 A8 β : Type} {x : Option (A0 × A1 × A2 × A3 × A4 × A5 × A6 × A7 × A8)} {k : A0 → A1 → A2 → A3 → A4 → A5 → A6 → A7 → A8 → Option β} {r : β} (h : im_b9 x k = some r) : ∃ (x0 : A0) (x1 : A1) (x2 : A2) (x3 : A3) (x4 : A4) (x5 : A5) (x6 : A6) (x7 : A7) (x8 : A8), x = some (x0, x1, x2, x3, x4, x5, x6, x7, x8) ∧ k x0 x1 x2 x3 x4 x5 x6 x7 x8 = some r := by
  obtain ⟨w, h1, h2⟩ := Option.bind_eq_some_iff.mp h
  exact ⟨w.1, w.2.1, w.2.2.1, w.2.2.2.1, w.2.2.2.2.1, w.2.2.2.2.2.1, w.2.2.2.2.2.2.1, w.2.2.2.2.2.2.2.1, w.2.2.2.2.2.2.2.2, h1, h2⟩
def im_j10 {A0 A1 A2 A3 A4 A5 A6 A7 A8 A9 β : Type} (k : A0 → A1 → A2 → A3 → A4 → A5 → A6 → A7 → A8 → A9 → Option β) (t : (A0 → A1 → A2 → A3 → A4 → A5 → A6 → A7 → A8 → A9 → Option β) → Option β) : Option β := t k
theorem im_j10_u {A0 A1 A2 A3 A4 A5 A6 A7 A8 A9 β : Type} {k : A0 → A1 → A2 → A3 → A4 → A5 → A6 → A7 → A8 → A9 → Option β} {t : (A0 → A1 → A2 → A3 → A4 → A5 → A6 → A7 → A8 → A9 → Option β) → Option β} {r : β} {P : A0 → A1 → A2 → A3 → A4 → A5 → A6 → A7 → A8 → A9 → Prop} {G : Prop} (h : im_j10 k t = some r) (hJ : ∀ (x0 : A0) (x1 : A1) (x2 : A2) (x3 : A3) (x4 : A4) (x5 : A5) (x6 : A6) (x7 : A7) (x8 : A8) (x9 : A9), k x0 x1 x2 x3 x4 x5 x6 x7 x8 x9 = some r → P x0 x1 x2 x3 x4 x5 x6 x7 x8 x9) (hT : ∀ K : A0 → A1 → A2 → A3 → A4 → A5 → A6 → A7 → A8 → A9 → Option β, (∀ (x0 : A0) (x1 : A1) (x2 : A2) (x3 : A3) (x4 : A4) (x5 : A5) (x6 : A6) (x7 : A7) (x8 : A8) (x9 : A9), K x0 x1 x2 x3 x4 x5 x6 x7 x8 x9 = some r → P x0 x1 x2 x3 x4 x5 x6 x7 x8 x9) → t K = some r → G) : G := hT k hJ h
def im_b10 {A0 A1 A2 A3 A4 A5 A6 A7 A8 A9 β : Type} (x : Option (A0 × A1 × A2 × A3 × A4 × A5 × A6 × A7 × A8 × A9)) (k : A0 → A1 → A2 → A3 → A4 → A5 → A6 → A7 → A8 → A9 → Option β) : Option β := x.bind (fun w => k (w.1) (w.2.1) (w.2.2.1) (w.2.2.2.1) (w.2.2.2.2.1) (w.2.2.2.2.2.1) (w.2.2.2.2.2.2.1) (w.2.2.2.2.2.2.2.1) (w.2.2.2.2.2.2.2.2.1) (w.2.2.2.2.2.2.2.2.2))
theorem im_b10_u {A0 A1 A2 A3 A4 A5 A6 A7 A8 A9 β : Type} {x : Option (A0 × A1 × A2 × A3 × A4 × A5 × A6 × A7 × A8 × A9)} {k : A0 → A1 → A2 → A3 → A4 → A5 → A6 → A7 → A8 → A9 → Option β} {r : β} (h : im_b10 x k = some r) : ∃ (x0 : A0) (x1 : A1) (x2 : A2) (x3 : A3) (x4 : A4) (x5 : A5) (x6 : A6) (x7 : A7) (x8 : A8) (x9 : A9), x = some (x0, x1, x2, x3, x4, x5, x6, x7, x8, x9) ∧ k x0 x1 x2 x3 x4 x5 x6 x7 x8 x9 = some r := by
  obtain ⟨w, h1, h2⟩ := Option.bind_eq_some_iff.mp h
  exact ⟨w.1, w.2.1, w.2.2.1, w.2.2.2.1, w.2.2.2.2.1, w.2.2.2.2.2.1, w.2.2.2.2.2.2.1, w.2.2.2.2.2.2.2.1, w.2.2.2.2.2.2.2.2.1, w.2.2.2.2.2.2.2.2.2, h1, h2⟩
def im_j11 {A0 A1 A2 A3 A4 A5 A6 A7 A8 A9 A10 β : Type} (k : A0 → A1 → A2 → A3 → A4 → A5 → A6 → A7 → A8 → A9 → A10 → Option β) (t : (A0 → A1 → A2 → A3 → A4 → A5 → A6 → A7 → A8 → A9 → A10 → Option β) → Option β) : Option β := t k
theorem im_j11_u {A0 A1 A2 A3 A4 A5 A6 A7 A8 A9 A10 β : Type} {k : A0 → A1 → A2 → A3 → A4 → A5 → A6 → A7 → A8 → A9 → A10 → Option β} {t : (A0 → A1 → A2 → A3 → A4 → A5 → A6 → A7 → A8 → A9 → A10 → Option β) → Option β} {r : β} {P : A0 → A1 → A2 → A3 → A4 → A5 → A6 → A7 → A8 → A9 → A10 → Prop} {G : Prop} (h : im_j11 k t = some r) (hJ : ∀ (x0 : A0) (x1 : A1) (x2 : A2) (x3 : A3) (x4 : A4) (x5 : A5) (x6 : A6) (x7 : A7) (x8 : A8) (x9 : A9) (x10 : A10), k x0 x1 x2 x3 x4 x5 x6 x7 x8 x9 x10 = some r → P x0 x1 x2 x3 x4 x5 x6 x7 x8 x9 x10) (hT : ∀ K : A0 → A1 → A2 → A3 → A4 → A5 → A6 → A7 → A8 → A9 → A10 → Option β, (∀ (x0 : A0) (x1 : A1) (x2 : A2) (x3 : A3) (x4 : A4) (x5 : A5) (x6 : A6) (x7 : A7) (x8 : A8) (x9 : A9) (x10 : A10), K x0 x1 x2 x3 x4 x5 x6 x7 x8 x9 x10 = some r → P x0 x1 x2 x3 x4 x5 x6 x7 x8 x9 x10) → t K = some r → G) : G := hT k hJ h
def im_b11 {A0 A1 A2 A3 A4 A5 A6 A7 A8 A9 A10 β : Type} (x : Option (A0 × A1 × A2 × A3 × A4 × A5 × A6 × A7 × A8 × A9 × A10)) (k : A0 → A1 → A2 → A3 → A4 → A5 → A6 → A7 → A8 → A9 → A10 → Option β) : Option β := x.bind (fun w => k (w.1) (w.2.1) (w.2.2.1) (w.2.2.2.1) (w.2.2.2.2.1) (w.2.2.2.2.2.1) (w.2.2.2.2.2.2.1) (w.2.2.2.2.2.2.2.1) (w.2.2.2.2.2.2.2.2.1) (w.2.2.2.2.2.2.2.2.2.1) (w.2.2.2.2.2.2.2.2.2.2))
theorem im_b11_u {A0 A1 A2 A3 A4 A5 A6 A7 A8 A9 A10 β : Type} {x : Option (A0 × A1 × A2 × A3 × A4 × A5 × A6 × A7 × A8 × A9 × A10)} {k : A0 → A1 → A2 → A3 → A4 → A5 → A6 → A7 → A8 → A9 → A10 → Option β} {r : β} (h : im_b11 x k = some r) : ∃ (x0 : A0) (x1 : A1) (x2 : A2) (x3 : A3) (x4 : A4) (x5 : A5) (x6 : A6) (x7 : A7) (x8 : A8) (x9 : A9) (x10 : A10), x = some (x0, x1, x2, x3, x4, x5, x6, x7, x8, x9, x10) ∧ k x0 x1 x2 x3 x4 x5 x6 x7 x8 x9 x10 = some r := by
  obtain ⟨w, h1, h2⟩ := Option.bind_eq_some_iff.mp h
  exact ⟨w.1, w.2.1, w.2.2.1, w.2.2.2.1, w.2.2.2.2.1, w.2.2.2.2.2.1, w.2.2.2.2.2.2.1, w.2.2.2.2.2.2.2.1, w.2.2.2.2.2.2.2.2.1, w.2.2.2.2.2.2.2.2.2.1, w.2.2.2.2.2.2.2.2.2.2, h1, h2⟩
def im_j12 {A0 A1 A2 A3 A4 A5 A6 A7 A8 A9 A10 A11 β : Type} (k : A0 → A1 → A2 → A3 → A4 → A5 → A6 → A7 → A8 → A9 → A10 → A11 → Option β) (t : (A0 → A1 → A2 → A3 → A4 → A5 → A6 → A7 → A8 → A9 → A10 → A11 → Option β) → Option β) : Option β := t k
theorem im_j12_u {A0 A1 A2 A3 A4 A5 A6 A7 A8 A9 A10 A11 β : Type} {k : A0 → A1 → A2 → A3 → A4 → A5 → A6 → A7 → A8 → A9 → A10 → A11 → Option β} {t : (A0 → A1 → A2 → A3 → A4 → A5 → A6 → A7 → A8 → A9 → A10 → A11 → Option β) → Option β} {r : β} {P : A0 → A1 → A2 → A3 → A4 → A5 → A6 → A7 → A8 → A9 → A10 → A11 → Prop} {G : Prop} (h : im_j12 k t = some r) (hJ : ∀ (x0 : A0) (x1 : A1) (x2 : A2) (x3 : A3) (x4 : A4) (x5 : A5) (x6 : A6) (x7 : A7) (x8 : A8) (x9 : A9) (x10 : A10) (x11 : A11), k x0 x1 x2 x3 x4 x5 x6 x7 x8 x9 x10 x11 = some r → P x0 x1 x2 x3 x4 x5 x6 x7 x8 x9 x10 x11) (hT : ∀ K : A0 → A1 → A2 → A3 → A4 → A5 → A6 → A7 → A8 → A9 → A10 → A11 → Option β, (∀ (x0 : A0) (x1 : A1) (x2 : A2) (x3 : A3) (x4 : A4) (x5 : A5) (x6 : A6) (x7 : A7) (x8 : A8) (x9 : A9) (x10 : A10) (x11 : A11), K x0 x1 x2 x3 x4 x5 x6 x7 x8 x9 x10 x11 = some r → P x0 x1 x2 x3 x4 x5 x6 x7 x8 x9 x10 x11) → t K = some r → G) : G := hT k hJ h
def im_b12 {A0 A1 A2 A3 A4 A5 A6 A7 A8 A9 A10 A11 β : Type} (x : Option (A0 × A1 × A2 × A3 × A4 × A5 × A6 × A7 × A8 × A9 × A10 × A11)) (k : A0 → A1 → A2 → A3 → A4 → A5 → A6 → A7 → A8 → A9 → A10 → A11 → Option β) : Option β := x.bind (fun w => k (w.1) (w.2.1) (w.2.2.1) (w.2.2.2.1) (w.2.2.2.2.1) (w.2.2.2.2.2.1) (w.2.2.2.2.2.2.1) (w.2.2.2.2.2.2.2.1) (w.2.2.2.2.2.2.2.2.1) (w.2.2.2.2.2.2.2.2.2.1) (w.2.2.2.2.2.2.2.2.2.2.1) (w.2.2.2.2.2.2.2.2.2.2.2))
theorem im_b12_u {A0 A1 A2 A3 A4 A5 A6 A7 A8 A9 A10 A11 β : Type} {x : Option (A0 × A1 × A2 × A3 × A4 × A5 × A6 × A7 × A8 × A9 × A10 × A11)} {k : A0 → A1 → A2 → A3 → A4 → A5 → A6 → A7 → A8 → A9 → A10 → A11 → Option β} {r : β} (h : im_b12 x k = some r) : ∃ (x0 : A0) (x1 : A1) (x2 : A2) (x3 : A3) (x4 : A4) (x5 : A5) (x6 : A6) (x7 : A7) (x8 : A8) (x9 : A9) (x10 : A10) (x11 : A11), x = some (x0, x1, x2, x3, x4, x5, x6, x7, x8, x9, x10, x11) ∧ k x0 x1 x2 x3 x4 x5 x6 x7 x8 x9 x10 x11 = some r := by
  obtain ⟨w, h1, h2⟩ := Option.bind_eq_some_iff.mp h
  exact ⟨w.1, w.2.1, w.2.2.1, w.2.2.2.1, w.2.2.2.2.1, w.2.2.2.2.2.1, w.2.2.2.2.2.2.1, w.2.2.2.2.2.2.2.1, w.2.2.2.2.2.2.2.2.1, w.2.2.2.2.2.2.2.2.2.1, w.2.2.2.2.2.2.2.2.2.2.1, w.2.2.2.2.2.2.2.2.2.2.2, h1, h2⟩
