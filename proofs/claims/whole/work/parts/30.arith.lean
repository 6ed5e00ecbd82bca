/-! Elements of the field as ints; the class's and the reference's arithmetic is the field's. -/
def Gi (a : Gf) : Int32 := nI a.toNat
set_option maxRecDepth 100000 in
set_option maxHeartbeats 4000000 in
theorem ar_prod0 : ∀ i : Fin 64, ∀ j : Fin 64, im_X1_product (nI i) (nI j) = some (nI (gf_m (BitVec.ofFin i) (BitVec.ofFin j)).toNat) := by decide +kernel
theorem ar_prod (a b : Gf) : im_X1_product (Gi a) (Gi b) = some (Gi (gf_m a b)) := ar_prod0 a.toFin b.toFin
set_option maxRecDepth 100000 in
set_option maxHeartbeats 4000000 in
theorem ar_inv0 : ∀ i : Fin 64, im_X1_inverse (nI i) = some (nI (gf_i (BitVec.ofFin i)).toNat) := by decide +kernel
theorem ar_inv (a : Gf) : im_X1_inverse (Gi a) = some (Gi (gf_i a)) := ar_inv0 a.toFin
set_option maxRecDepth 100000 in
set_option maxHeartbeats 4000000 in
theorem ar_times0 : ∀ i : Fin 64, ∀ j : Fin 64, im_X5_times (nI i) (nI j) = some (nI (gf_m (BitVec.ofFin i) (BitVec.ofFin j)).toNat) := by decide +kernel
theorem ar_times (a b : Gf) : im_X5_times (Gi a) (Gi b) = some (Gi (gf_m a b)) := ar_times0 a.toFin b.toFin
set_option maxRecDepth 100000 in
set_option maxHeartbeats 4000000 in
theorem ar_minv0 : ∀ i : Fin 64, i ≠ 0 → im_X5_inverse (nI i) = some (nI (gf_i (BitVec.ofFin i)).toNat) := by decide +kernel
theorem ar_minv (a : Gf) (h : a ≠ 0#6) : im_X5_inverse (Gi a) = some (Gi (gf_i a)) := ar_minv0 a.toFin (fun q => h (by
  have : BitVec.ofFin a.toFin = BitVec.ofFin (0 : Fin 64) := by rw [q]
  exact this))
set_option maxRecDepth 100000 in
set_option maxHeartbeats 4000000 in
theorem ar_power : ∀ k : Fin 64, im_X5_power (nI k) = some (Gi (gf_p 2#6 k)) := by decide +kernel
set_option maxRecDepth 100000 in
theorem ar_xor0 : ∀ i : Fin 64, ∀ j : Fin 64, nI i ^^^ nI j = nI (BitVec.ofFin i ^^^ BitVec.ofFin j : Gf).toNat := by decide +kernel
theorem Gi_xor (a b : Gf) : Gi a ^^^ Gi b = Gi (a ^^^ b) := ar_xor0 a.toFin b.toFin
theorem Gi_lt (a : Gf) : a.toNat < 64 := a.isLt
theorem Gi_inj {a b : Gf} (h : Gi a = Gi b) : a = b := by
  have h1 : a.toNat = b.toNat := (nI_eq (by have := Gi_lt a; omega) (by have := Gi_lt b; omega)).mp h
  exact BitVec.eq_of_toNat_eq h1
theorem Gi_0 : Gi 0#6 = 0 := rfl
theorem Gi_1 : Gi 1#6 = 1 := rfl
theorem Gi_2 : Gi 2#6 = 2 := rfl
theorem Gi_z {a : Gf} : Gi a = 0 ↔ a = 0#6 := ⟨fun h => Gi_inj (h.trans Gi_0.symm), fun h => by rw [h]; rfl⟩
/-! the images' words, evaluated -/
theorem ev_lt {α β : Type} (e : α) (k : α → Option β) : im_lt e k = k e := rfl
theorem ev_b1 {α β : Type} (x : α) (k : α → Option β) : im_b1 (some x) k = k x := rfl
theorem ev_j0 {β : Type} (k : Option β) (t : Option β → Option β) : im_j0 k t = t k := rfl
theorem ev_j1 {A0 β : Type} (k : A0 → Option β) (t : (A0 → Option β) → Option β) : im_j1 k t = t k := rfl
theorem ev_j2 {A0 A1 β : Type} (k : A0 → A1 → Option β) (t : (A0 → A1 → Option β) → Option β) : im_j2 k t = t k := rfl
theorem ev_j3 {A0 A1 A2 β : Type} (k : A0 → A1 → A2 → Option β) (t : (A0 → A1 → A2 → Option β) → Option β) : im_j3 k t = t k := rfl
theorem ev_j4 {A0 A1 A2 A3 β : Type} (k : A0 → A1 → A2 → A3 → Option β) (t : (A0 → A1 → A2 → A3 → Option β) → Option β) : im_j4 k t = t k := rfl
theorem ev_j5 {A0 A1 A2 A3 A4 β : Type} (k : A0 → A1 → A2 → A3 → A4 → Option β) (t : (A0 → A1 → A2 → A3 → A4 → Option β) → Option β) : im_j5 k t = t k := rfl
theorem ev_j6 {A0 A1 A2 A3 A4 A5 β : Type} (k : A0 → A1 → A2 → A3 → A4 → A5 → Option β) (t : (A0 → A1 → A2 → A3 → A4 → A5 → Option β) → Option β) : im_j6 k t = t k := rfl
theorem ev_j7 {A0 A1 A2 A3 A4 A5 A6 β : Type} (k : A0 → A1 → A2 → A3 → A4 → A5 → A6 → Option β) (t : (A0 → A1 → A2 → A3 → A4 → A5 → A6 → Option β) → Option β) : im_j7 k t = t k := rfl
theorem ev_j8 {A0 A1 A2 A3 A4 A5 A6 A7 β : Type} (k : A0 → A1 → A2 → A3 → A4 → A5 → A6 → A7 → Option β) (t : (A0 → A1 → A2 → A3 → A4 → A5 → A6 → A7 → Option β) → Option β) : im_j8 k t = t k := rfl
theorem ev_j9 {A0 A1 A2 A3 A4 A5 A6 A7 A8 β : Type} (k : A0 → A1 → A2 → A3 → A4 → A5 → A6 → A7 → A8 → Option β) (t : (A0 → A1 → A2 → A3 → A4 → A5 → A6 → A7 → A8 → Option β) → Option β) : im_j9 k t = t k := rfl
theorem ev_b2 {A0 A1 β : Type} (x0 : A0) (x1 : A1) (k : A0 → A1 → Option β) : im_b2 (some (x0, x1)) k = k x0 x1 := rfl
theorem ev_b3 {A0 A1 A2 β : Type} (x0 : A0) (x1 : A1) (x2 : A2) (k : A0 → A1 → A2 → Option β) : im_b3 (some (x0, x1, x2)) k = k x0 x1 x2 := rfl
theorem ev_b4 {A0 A1 A2 A3 β : Type} (x0 : A0) (x1 : A1) (x2 : A2) (x3 : A3) (k : A0 → A1 → A2 → A3 → Option β) : im_b4 (some (x0, x1, x2, x3)) k = k x0 x1 x2 x3 := rfl
theorem ev_b5 {A0 A1 A2 A3 A4 β : Type} (x0 : A0) (x1 : A1) (x2 : A2) (x3 : A3) (x4 : A4) (k : A0 → A1 → A2 → A3 → A4 → Option β) : im_b5 (some (x0, x1, x2, x3, x4)) k = k x0 x1 x2 x3 x4 := rfl
theorem ev_b6 {A0 A1 A2 A3 A4 A5 β : Type} (x0 : A0) (x1 : A1) (x2 : A2) (x3 : A3) (x4 : A4) (x5 : A5) (k : A0 → A1 → A2 → A3 → A4 → A5 → Option β) : im_b6 (some (x0, x1, x2, x3, x4, x5)) k = k x0 x1 x2 x3 x4 x5 := rfl
theorem ev_b7 {A0 A1 A2 A3 A4 A5 A6 β : Type} (x0 : A0) (x1 : A1) (x2 : A2) (x3 : A3) (x4 : A4) (x5 : A5) (x6 : A6) (k : A0 → A1 → A2 → A3 → A4 → A5 → A6 → Option β) : im_b7 (some (x0, x1, x2, x3, x4, x5, x6)) k = k x0 x1 x2 x3 x4 x5 x6 := rfl
theorem ev_b8 {A0 A1 A2 A3 A4 A5 A6 A7 β : Type} (x0 : A0) (x1 : A1) (x2 : A2) (x3 : A3) (x4 : A4) (x5 : A5) (x6 : A6) (x7 : A7) (k : A0 → A1 → A2 → A3 → A4 → A5 → A6 → A7 → Option β) : im_b8 (some (x0, x1, x2, x3, x4, x5, x6, x7)) k = k x0 x1 x2 x3 x4 x5 x6 x7 := rfl
theorem ev_b9 {A0 A1 A2 A3 A4 A5 A6 A7 A8 β : Type} (x0 : A0) (x1 : A1) (x2 : A2) (x3 : A3) (x4 : A4) (x5 : A5) (x6 : A6) (x7 : A7) (x8 : A8) (k : A0 → A1 → A2 → A3 → A4 → A5 → A6 → A7 → A8 → Option β) : im_b9 (some (x0, x1, x2, x3, x4, x5, x6, x7, x8)) k = k x0 x1 x2 x3 x4 x5 x6 x7 x8 := rfl
theorem ev_as {β : Type} {c : Prop} [Decidable c] (h : c) (k : Option β) : im_as c k = k := if_pos h
theorem ev_ld {α β : Type} {n i : Nat} (h : i < n) (hn : n < 2 ^ 31) (f : Nat → α) (k : α → Option β) : im_ld n f (nI i) k = k (f i) := by
  unfold im_ld
  rw [if_neg (nI_in h hn), nI_clamp (by omega)]
theorem ev_st {β : Type} {n i : Nat} (h : i < n) (hn : n < 2 ^ 31) (f : Nat → Int32) (x : Int32) (k : (Nat → Int32) → Option β) : im_st n f (nI i) x k = k (upd f i x) := by
  unfold im_st
  rw [if_neg (nI_in h hn), nI_clamp (by omega)]
theorem ev_stL {β : Type} {n i : Nat} (h : i < n) (hn : n < 2 ^ 31) (f : Nat → Int64) (x : Int64) (k : (Nat → Int64) → Option β) : im_stL n f (nI i) x k = k (vp_updL f i x) := by
  unfold im_stL
  rw [if_neg (nI_in h hn), nI_clamp (by omega)]
theorem up_s (f : Nat → Int32) (k : Nat) (x : Int32) : upd f k x k = x := if_pos rfl
theorem up_n (f : Nat → Int32) {k j : Nat} (x : Int32) (h : j ≠ k) : upd f k x j = f j := if_neg h
/-- a loop that counts up to N -/
theorem lp_up {σ γ : Type} (L : Nat → Int32 → σ → γ) (K : σ → γ) (N : Nat) (inv : Nat → σ → Prop)
    (h0 : ∀ f s, inv N s → L (f + 1) (nI N) s = K s) (h1 : ∀ f i s, i < N → inv i s → ∃ s', inv (i + 1) s' ∧ L (f + 1) (nI i) s = L f (nI (i + 1)) s') :
    ∀ (d i : Nat) (s : σ) (f : Nat), i + d = N → d < f → inv i s → ∃ s', inv N s' ∧ L f (nI i) s = K s' := by
  intro d
  induction d with
  | zero =>
    intro i s f hi hf hs
    obtain ⟨g, rfl⟩ : ∃ g, f = g + 1 := ⟨f - 1, by omega⟩
    rw [Nat.add_zero] at hi
    subst hi
    exact ⟨s, hs, h0 g s hs⟩
  | succ d ih =>
    intro i s f hi hf hs
    obtain ⟨g, rfl⟩ : ∃ g, f = g + 1 := ⟨f - 1, by omega⟩
    obtain ⟨s1, hs1, e1⟩ := h1 g i s (by omega) hs
    obtain ⟨s2, hs2, e2⟩ := ih (i + 1) s1 g (by omega) (by omega) hs1
    exact ⟨s2, hs2, e1.trans e2⟩
/-- a loop that counts down to 0: at 0 it ends -/
theorem lp_dn {σ γ : Type} (L : Nat → Int32 → σ → γ) (K : σ → γ) (inv : Nat → σ → Prop)
    (h0 : ∀ f s, inv 0 s → L (f + 1) (nI 0) s = K s) (h1 : ∀ f i s, inv (i + 1) s → ∃ s', inv i s' ∧ L (f + 1) (nI (i + 1)) s = L f (nI i) s') :
    ∀ (i : Nat) (s : σ) (f : Nat), i < f → inv i s → ∃ s', inv 0 s' ∧ L f (nI i) s = K s' := by
  intro i
  induction i with
  | zero =>
    intro s f hf hs
    obtain ⟨g, rfl⟩ : ∃ g, f = g + 1 := ⟨f - 1, by omega⟩
    exact ⟨s, hs, h0 g s hs⟩
  | succ i ih =>
    intro s f hf hs
    obtain ⟨g, rfl⟩ : ∃ g, f = g + 1 := ⟨f - 1, by omega⟩
    obtain ⟨s1, hs1, e1⟩ := h1 g i s hs
    obtain ⟨s2, hs2, e2⟩ := ih s1 g (by omega) hs1
    exact ⟨s2, hs2, e1.trans e2⟩
/-- a row of ints that are elements -/
def Rp (n : Nat) (f : Nat → Int32) (w : Nat → Gf) : Prop := ∀ i, i < n → f i = Gi (w i)
theorem Rp.up {n i : Nat} {f : Nat → Int32} {w : Nat → Gf} (h : Rp n f w) (x : Gf) : Rp n (upd f i (Gi x)) (fun j => if j = i then x else w j) := by
  intro j hj
  by_cases q : j = i
  · subst q; rw [up_s]; simp
  · rw [up_n _ _ q, h j hj]; simp [q]
theorem Rp.congr {n : Nat} {f : Nat → Int32} {w v : Nat → Gf} (h : Rp n f w) (e : ∀ i, i < n → w i = v i) : Rp n f v := fun i hi => by rw [h i hi, e i hi]
/-- Horner -/
def hn (w : Nat → Gf) (r : Gf) : Nat → Gf
  | 0 => 0#6
  | i + 1 => gf_m (hn w r i) r ^^^ w i
theorem hn_s (w : Nat → Gf) (r : Gf) (n : Nat) : hn w r n = gf_s n (fun i => gf_m (w i) (gf_p r (n - 1 - i))) := by
  induction n with
  | zero => rfl
  | succ n ih =>
    rw [hn, ih, gf_s, gf_m_comm, ← gf_s_m]
    congr 1
    · refine gf_s_congr (fun i hi => ?_)
      rw [show n + 1 - 1 - i = (n - 1 - i) + 1 by omega, gf_p, gf_m_l]
    · rw [show n + 1 - 1 - n = 0 by omega]; exact (gf_m_1 _).symm
