def Hb (k : Nat) (r : Nat → Int32) : Prop := ∀ i, i < kL k → r i = -1 ∨ ∃ x, x ≤ kH k ∧ r i = nI x
def pcN (k mm : Nat) (r : Nat → Int32) (p : Nat) : Nat := if r (pl k p) = -1 then 0 else (r (pl k p) ^^^ tu k mm (pl k p)).toBitVec.toNat
def xs (k mm : Nat) (r : Nat → Int32) (s : Nat) : Nat → Nat
  | 0 => 0
  | q + 1 => xs k mm r s q * 2 ^ kB k + pcN k mm r (s * kS k + q)
def els (k : Nat) (r : Nat → Int32) (s : Nat) : Nat → Bool
  | 0 => false
  | q + 1 => els k r s q || decide (r (pl k (s * kS k + q)) = -1)
def tw (k mm : Nat) (key : Gf) (r : Nat → Int32) (s : Nat) : Gf := if els k r s (kS k) then 0#6 else BitVec.ofNat 6 (xs k mm r s (kS k)) ^^^ ky k key s
theorem pc_0 : ∀ x, x < 4 → ((nI x ^^^ 0 : Int32)) = nI x ∧ (nI x).toBitVec.toNat = x := by decide +kernel
theorem pc_1 : ∀ x, x < 2 → ((nI x ^^^ 1 : Int32)) = nI (1 - x) ∧ (nI (1 - x)).toBitVec.toNat = 1 - x ∧ (1 : Int32) - nI x = nI (1 - x) := by decide +kernel
theorem kH4 : ∀ k, k < 4 → kH k < 4 ∧ kH k + 1 = 2 ^ kB k ∧ kS k * kB k = 6 ∧ (k = 2 → kH k = 1) ∧ (k ≠ 2 → kN k = kn k * kS k) := by decide +kernel
theorem kN96 : ∀ k, k < 4 → kn k * kS k ≤ kN k := by decide +kernel
theorem pc_ok {k mm p : Nat} {r : Nat → Int32} (hk : k < 4) (hm : k = 2 → mm < 4) (hr : Hb k r) (hp : p < kn k * kS k) : pcN k mm r p ≤ kH k ∧ (r (pl k p) ≠ -1 → r (pl k p) ^^^ tu k mm (pl k p) = nI (pcN k mm r p) ∧ (tu k mm (pl k p) = 0 → r (pl k p) = nI (pcN k mm r p)) ∧ (tu k mm (pl k p) ≠ 0 → 1 - r (pl k p) = nI (pcN k mm r p))) := by
  have hN := kN96 k hk
  have hL := pl_L (p := p) hk (by omega)
  have h4 := kH4 k hk
  rw [pcN]
  by_cases z : r (pl k p) = -1
  · rw [if_pos z]; exact ⟨Nat.zero_le _, fun y => absurd z y⟩
  · rw [if_neg z]
    obtain ⟨x, hx, hrx⟩ := (hr _ hL).resolve_left z
    rw [hrx]
    have htu : tu k mm (pl k p) = 0 ∨ (tu k mm (pl k p) = 1 ∧ k = 2) := by
      by_cases y : k = 2
      · subst y
        rcases (tu_sq mm (hm rfl) (pl 2 p) hL).2.2 with t | t
        · exact Or.inl t
        · exact Or.inr ⟨t, rfl⟩
      · exact Or.inl (by rw [tu, if_neg y])
    rcases htu with t | ⟨t, y⟩
    · rw [t, (pc_0 x (by omega)).1, (pc_0 x (by omega)).2]
      exact ⟨hx, fun _ => ⟨rfl, fun _ => rfl, fun q => absurd rfl q⟩⟩
    · have hx1 : x < 2 := by have := h4.2.2.2.1 y; omega
      rw [t, (pc_1 x hx1).1, (pc_1 x hx1).2.1]
      exact ⟨by have := h4.2.2.2.1 y; omega, fun _ => ⟨rfl, fun q => absurd q (by decide), fun _ => (pc_1 x hx1).2.2⟩⟩
theorem xs_lt {k mm s : Nat} {r : Nat → Int32} (hk : k < 4) (hm : k = 2 → mm < 4) (hr : Hb k r) (hs : s < kn k) : ∀ q, q ≤ kS k → xs k mm r s q < 2 ^ (q * kB k) := by
  intro q
  induction q with
  | zero => intro _; rw [xs, Nat.zero_mul]; exact Nat.zero_lt_one
  | succ q ih =>
    intro hq
    have h1 := ih (by omega)
    have hms : s * kS k + kS k ≤ kn k * kS k := by
      rw [← Nat.succ_mul]; exact Nat.mul_le_mul_right _ hs
    have h2 := (pc_ok (p := s * kS k + q) hk hm hr (by omega)).1
    have h3 := (kH4 k hk).2.1
    have h4 : (xs k mm r s q + 1) * 2 ^ kB k ≤ 2 ^ (q * kB k) * 2 ^ kB k := Nat.mul_le_mul_right _ h1
    rw [xs, Nat.succ_mul, Nat.pow_add]
    rw [Nat.succ_mul] at h4
    omega
theorem or_f : ∀ k, k < 4 → ∀ q, q < kS k → ∀ X, X < 2 ^ (q * kB k) → (X * 2 ^ (6 - q * kB k) = X * 2 ^ kB k * 2 ^ (6 - (q + 1) * kB k)) ∧ ∀ c, c < kH k + 1 → nI (X * 2 ^ (6 - q * kB k)) ||| (nI c <<< ((6 - (nI q + 1) * nI (kB k)) &&& 31)) = nI ((X * 2 ^ kB k + c) * 2 ^ (6 - (q + 1) * kB k)) := by decide +kernel
theorem ob_0 (b : Bool) : (ob b = 0) ↔ b = false := by cases b <;> decide
theorem tw_Gi {k mm s : Nat} {key : Gf} {r : Nat → Int32} (hk : k < 4) (hm : k = 2 → mm < 4) (hr : Hb k r) (hs : s < kn k) : nI (xs k mm r s (kS k)) = Gi (BitVec.ofNat 6 (xs k mm r s (kS k))) := by
  have h1 := xs_lt (q := kS k) hk hm hr hs (Nat.le_refl _)
  rw [(kH4 k hk).2.2.1] at h1
  rw [Gi_of, Nat.mod_eq_of_lt (show xs k mm r s (kS k) < 64 from h1)]
/-- the class takes the word -/
theorem f_takeW {k mm : Nat} {key : Gf} {x1 : Int32} {f r fw fl : Nat → Int32} (hk : k < 4) (hx : k = 2 → x1 = nI mm ∧ mm < 4) (hr : Hb k r) (hf : ∀ i, i < kL k → f i = r i) :
    ∃ fw' fl', im_X2_takeWord x1 (nI k) (nI (kR k)) (nI (kn k)) (nI (kB k)) (nI (kS k)) (Gi key) 200 (kn k) (kn k) f fw fl = some (fw', fl') ∧ Rp (kn k) fw' (tw k mm key r) ∧ Lp (kn k) fl' (fun s => els k r s (kS k)) := by
  obtain ⟨b1, b2, b3, b4, b5, b6, b7, b8, b9, b10, b11, b12, b13, b14, b15⟩ := kp k hk
  have hm : k = 2 → mm < 4 := fun y => (hx y).2
  obtain ⟨c4, c5, c6, _⟩ := kH4 k hk
  obtain ⟨a, ⟨ha1, ha2⟩, e⟩ := lp_up (fun q s (a : (Nat → Int32) × (Nat → Int32)) => im_X2_takeWord_L3 (nI (kn k)) (kn k) (kn k) (nI (kR k)) (Gi key) (nI (kS k)) (nI k) 200 f x1 (nI (kB k)) q s a.1 a.2) (fun a => some (a.1, a.2)) (kn k)
    (fun s a => Rp s a.1 (tw k mm key r) ∧ Lp s a.2 (fun s => els k r s (kS k)))
    (fun q a _ => by
      show im_X2_takeWord_L3 (nI (kn k)) (kn k) (kn k) (nI (kR k)) (Gi key) (nI (kS k)) (nI k) 200 f x1 (nI (kB k)) (q + 1) (nI (kn k)) a.1 a.2 = _
      rw [im_X2_takeWord_L3, if_pos (nI_le (Nat.le_refl _) (by omega))])
    (fun q s a hs ha => by
      have hms : s * kS k + kS k ≤ kn k * kS k := by
        rw [← Nat.succ_mul]; exact Nat.mul_le_mul_right _ hs
      obtain ⟨c, ⟨hc1, hc2, hc3⟩, ec⟩ := lp_up (fun q p (c : Int32 × (Nat → Int32)) => fun K => im_X2_takeWord_L24 (nI (kS k)) K (nI s) (nI k) 200 f (kn k) x1 (nI (kB k)) q c.1 p c.2) (fun c => fun K => K c.1 c.2) (kS k)
        (fun p c => c.1 = nI (xs k mm r s p * 2 ^ (6 - p * kB k)) ∧ c.2 s = ob (els k r s p) ∧ ∀ s', s' ≠ s → c.2 s' = a.2 s')
        (fun q c _ => by
          funext K
          rw [im_X2_takeWord_L24, if_pos (nI_le (Nat.le_refl _) (by omega))])
        (fun q p c hp hc => by
          obtain ⟨hc1, hc2, hc3⟩ := hc
          have hL : pl k (s * kS k + p) < kL k := pl_L hk (by omega)
          have hX := xs_lt (q := p) hk hm hr hs (by omega)
          have hpc := pc_ok (p := s * kS k + p) hk hm hr (by omega)
          by_cases z : r (pl k (s * kS k + p)) = -1
          · refine ⟨(c.1, upd c.2 s 1), ⟨?_, ?_, fun s' h => (up_n _ _ h).trans (hc3 s' h)⟩, ?_⟩
            · show c.1 = _
              rw [hc1, xs, show pcN k mm r (s * kS k + p) = 0 by rw [pcN, if_pos z], Nat.add_zero, (or_f k hk p hp _ hX).1]
            · show upd c.2 s 1 s = _
              rw [up_s, els, decide_eq_true z, Bool.or_true]; rfl
            · funext K
              rw [im_X2_takeWord_L24, if_neg (nI_ge hp (by omega)), ev_j2]
              simp only [ev_lt]
              rw [pk_mul, nI_add, pl_f hk (by omega), ev_b1, ev_ld (by omega) (by omega), hf _ hL, if_pos z, ev_st hs (by omega), nI_1]
          · refine ⟨(nI (xs k mm r s (p + 1) * 2 ^ (6 - (p + 1) * kB k)), c.2), ⟨rfl, ?_, hc3⟩, ?_⟩
            · show c.2 s = _
              rw [hc2, els, decide_eq_false z, Bool.or_false]
            · funext K
              rw [im_X2_takeWord_L24, if_neg (nI_ge hp (by omega)), ev_j2]
              simp only [ev_lt]
              rw [pk_mul (a := s), nI_add, pl_f hk (by omega), ev_b1, ev_ld (by omega) (by omega), hf _ hL, if_neg z, ev_ld (by omega) (by omega), hf _ hL, tu_f hk hx hL, ev_b1]
              show im_X2_takeWord_L24 _ _ _ _ _ _ _ _ _ q (c.1 ||| ((r (pl k (s * kS k + p)) ^^^ tu k mm (pl k (s * kS k + p))) <<< ((6 - (nI p + 1) * nI (kB k)) &&& 31))) (nI p + 1) c.2 = _
              rw [hc1, (hpc.2 z).1, (or_f k hk p hp _ hX).2 _ (by omega), nI_1]
              rfl) (kS k) 0 (0, upd a.2 s 0) 5000 (by omega) (by omega) ⟨by rw [xs, Nat.zero_mul]; rfl, by show upd a.2 s 0 s = _; rw [up_s]; rfl, fun s' h => up_n _ _ h⟩
      rw [c6, show 6 - 6 = 0 from rfl, Nat.pow_zero, Nat.mul_one] at hc1
      have hlo : Lp (s + 1) c.2 (fun s => els k r s (kS k)) := by
        intro j hj
        by_cases z : j = s
        · subst z; rw [hc2]; rfl
        · rw [hc3 j z]; exact ha.2 j (by omega)
      refine ⟨(upd a.1 s (Gi (tw k mm key r s)), c.2), ⟨ha.1.more rfl, hlo⟩, ?_⟩
      show im_X2_takeWord_L3 (nI (kn k)) (kn k) (kn k) (nI (kR k)) (Gi key) (nI (kS k)) (nI k) 200 f x1 (nI (kB k)) (q + 1) (nI s) a.1 a.2 = im_X2_takeWord_L3 (nI (kn k)) (kn k) (kn k) (nI (kR k)) (Gi key) (nI (kS k)) (nI k) 200 f x1 (nI (kB k)) q (nI (s + 1)) (upd a.1 s (Gi (tw k mm key r s))) c.2
      rw [im_X2_takeWord_L3, if_neg (nI_ge hs (by omega)), ev_st hs (by omega), ev_j2]
      refine (congrFun ec _).trans ?_
      rw [ev_j2, ev_ld hs (by omega), hc2, ky_f hk hs, ev_b1, ev_lt, hc1, tw_Gi (key := key) hk hm hr hs, Gi_xor]
      by_cases z : els k r s (kS k) = true
      · rw [if_neg (fun y => by rw [ob_0, z] at y; cases y)]
        show im_st _ _ _ _ _ = _
        rw [ev_st hs (by omega), ev_lt, nI_1, tw, if_pos z]; rfl
      · rw [if_pos ((ob_0 _).2 (by simpa using z))]
        show im_st _ _ _ _ _ = _
        rw [ev_st hs (by omega), ev_lt, nI_1, tw, if_neg z]) (kn k) 0 (fw, fl) 5000 (by omega) (by omega) ⟨fun i hi => by omega, fun i hi => by omega⟩
  refine ⟨a.1, a.2, ?_, ha1, ha2⟩
  rw [im_X2_takeWord]
  exact e
/-! the reference takes the word -/
def Iv (k mm : Nat) (r : Nat → Int32) (p : Nat) (a : (Nat → Int32) × (Nat → Int32)) : Prop := ∀ s, s < kn k → a.2 s = nI (xs k mm r s (min (kS k) (p - s * kS k))) ∧ a.1 s = ob (els k r s (min (kS k) (p - s * kS k)))
theorem shl_g : ∀ B, B < 3 → ∀ X, X < 64 → nI X <<< (nI B &&& 31) = nI (X * 2 ^ B) := by decide +kernel
theorem g_take {k mm p : Nat} {r : Nat → Int32} {v : Int32} {a : (Nat → Int32) × (Nat → Int32)} (hk : k < 4) (hm : k = 2 → mm < 4) (hr : Hb k r) (hp : p < kn k * kS k) (ha : Iv k mm r p a) (hv1 : r (pl k p) = -1 → v = -1) (hv2 : r (pl k p) ≠ -1 → v = nI (pcN k mm r p)) :
    ∃ a', im_X5_take (nI (p / kS k)) v (nI (kB k)) 22 22 a.1 a.2 = some a' ∧ Iv k mm r (p + 1) a' := by
  obtain ⟨b1, b2, b3, b4, b5, b6, b7, b8, b9, b10, b11, b12, b13, b14, b15⟩ := kp k hk
  obtain ⟨c4, c5, c6, _⟩ := kH4 k hk
  have hs : p / kS k < kn k := (Nat.div_lt_iff_lt_mul b5).2 hp
  have hmod := Nat.mod_lt p b5
  have hdm : p / kS k * kS k + p % kS k = p := by rw [Nat.mul_comm]; exact Nat.div_add_mod p (kS k)
  have hpc := pc_ok hk hm hr hp
  have hX := xs_lt (q := p % kS k) hk hm hr hs (by omega)
  have hX64 : xs k mm r (p / kS k) (p % kS k) < 64 := by
    have h1 : p % kS k * kB k ≤ kS k * kB k := Nat.mul_le_mul_right _ (by omega)
    have h2 : 2 ^ (p % kS k * kB k) ≤ 2 ^ 6 := Nat.pow_le_pow_right (by omega) (by omega)
    omega
  have hmin : min (kS k) (p - p / kS k * kS k) = p % kS k := by omega
  have hmin2 : min (kS k) (p + 1 - p / kS k * kS k) = p % kS k + 1 := by omega
  have hoth : ∀ s, s ≠ p / kS k → min (kS k) (p + 1 - s * kS k) = min (kS k) (p - s * kS k) := by
    intro s hne
    rcases Nat.lt_or_ge s (p / kS k) with z | z
    · have : (s + 1) * kS k ≤ p / kS k * kS k := Nat.mul_le_mul_right _ z
      rw [Nat.succ_mul] at this
      omega
    · have : (p / kS k + 1) * kS k ≤ s * kS k := Nat.mul_le_mul_right _ (by omega)
      rw [Nat.succ_mul] at this
      omega
  have h0 := ha _ hs
  rw [hmin] at h0
  have hB : kB k < 3 := by
    have : k = 0 ∨ k = 1 ∨ k = 2 ∨ k = 3 := by omega
    rcases this with rfl | rfl | rfl | rfl <;> decide
  by_cases z : r (pl k p) = -1
  · refine ⟨(upd a.1 (p / kS k) 1, upd a.2 (p / kS k) (nI (xs k mm r (p / kS k) (p % kS k + 1)))), ?_, fun s hs2 => ?_⟩
    · rw [im_X5_take, ev_j1, if_pos (hv1 z), ev_st (by omega) (by omega)]
      show im_j3 _ _ = _
      rw [ev_j3, ev_ld (by omega) (by omega), h0.1, ev_lt, shl_g _ hB _ hX64, if_pos (hv1 z)]
      show im_lt _ _ = _
      rw [ev_lt, Int32.add_zero, ev_st (by omega) (by omega), xs, hdm, show pcN k mm r p = 0 by rw [pcN, if_pos z], Nat.add_zero]
    · show upd a.2 (p / kS k) _ s = _ ∧ upd a.1 (p / kS k) 1 s = _
      by_cases y : s = p / kS k
      · subst y; rw [up_s, up_s, hmin2, els, hdm, decide_eq_true z, Bool.or_true]; exact ⟨rfl, rfl⟩
      · rw [up_n _ _ y, up_n _ _ y, hoth s y]; exact ha s hs2
  · have hne : nI (pcN k mm r p) ≠ -1 := by
      have h1 := hpc.1
      intro y
      have h2 : (0 : Int32) ≤ nI (pcN k mm r p) := nI_pos' (by omega)
      rw [y] at h2
      exact absurd h2 (by decide)
    have hv := hv2 z
    refine ⟨(a.1, upd a.2 (p / kS k) (nI (xs k mm r (p / kS k) (p % kS k + 1)))), ?_, fun s hs2 => ?_⟩
    · rw [im_X5_take, ev_j1, if_neg (by rw [hv]; exact hne)]
      show im_j3 _ _ = _
      rw [ev_j3, ev_ld (by omega) (by omega), h0.1, ev_lt, shl_g _ hB _ hX64, if_neg (by rw [hv]; exact hne)]
      show im_lt _ _ = _
      rw [ev_lt, hv, nI_add, ev_st (by omega) (by omega), xs, hdm]
    · show upd a.2 (p / kS k) _ s = _ ∧ a.1 s = _
      by_cases y : s = p / kS k
      · subst y; rw [up_s, hmin2, els, hdm, decide_eq_false z, Bool.or_false]; exact ⟨rfl, h0.2⟩
      · rw [up_n _ _ y, hoth s y]; exact ha s hs2
theorem g_takeA {k mm : Nat} {key : Gf} {o : Bool} {fm x1 : Int32} {t fg fw : Nat → Int32} (hk : k < 4) (hx : k = 2 → x1 = nI mm ∧ mm < 4) (hr : Hb k (an k o t)) (hK : Ky k fm key) :
    ∃ fg' fw', im_X5_takeAll (ob o) x1 (nI k) fm (nI (kR k)) (nI (kn k)) 22 200 22 fg t fw = some (fg', fw') ∧ Lp (kn k) fg' (fun s => els k (an k o t) s (kS k)) ∧ Rp (kn k) fw' (tw k mm key (an k o t)) := by
  obtain ⟨b1, b2, b3, b4, b5, b6, b7, b8, b9, b10, b11, b12, b13, b14, b15⟩ := kp k hk
  have hm : k = 2 → mm < 4 := fun y => (hx y).2
  generalize hrr : an k o t = r at hr ⊢
  -- all is 0
  obtain ⟨a0, ha0, e0⟩ := lp_up (fun q s (a : (Nat → Int32) × (Nat → Int32)) => fun K => im_X5_takeAll_L2 (nI (kn k)) K 22 22 q s a.1 a.2) (fun a => fun K => K a.1 a.2) (kn k)
    (fun s a => ∀ j, j < s → a.2 j = 0 ∧ a.1 j = 0)
    (fun q a _ => by
      funext K
      rw [im_X5_takeAll_L2, if_pos (nI_le (Nat.le_refl _) (by omega))])
    (fun q s a hs ha => ⟨(upd a.1 s 0, upd a.2 s 0), fun j hj => by
      show upd a.2 s 0 j = _ ∧ upd a.1 s 0 j = _
      by_cases z : j = s
      · subst z; rw [up_s, up_s]; exact ⟨rfl, rfl⟩
      · rw [up_n _ _ z, up_n _ _ z]; exact ha j (by omega), by
      funext K
      rw [im_X5_takeAll_L2, if_neg (nI_ge hs (by omega)), ev_st (by omega) (by omega), ev_st (by omega) (by omega), ev_lt, nI_1]⟩) (kn k) 0 (fg, fw) 5000 (by omega) (by omega) (fun j hj => by omega)
  have hI0 : Iv k mm r 0 a0 := fun s hs => by
    rw [Nat.zero_sub, Nat.min_zero]
    exact ⟨(ha0 s hs).1, (ha0 s hs).2⟩
  -- the pieces
  have hmid : ∃ a1, Iv k mm r (kn k * kS k) a1 ∧ ∀ K : (Nat → Int32) → (Nat → Int32) → Option ((Nat → Int32) × (Nat → Int32)), (if nI k = (2 : Int32) then im_j2 (fun (f42 : Nat → Int32) (f43 : Nat → Int32) => (K f42 f43)) (fun K44 => (im_X5_takeAll_L40 K44 22 22 (ob o) (nI k) (nI (kn k)) 200 t x1 5000 (0 : Int32) a0.1 a0.2)) else if nI k = (3 : Int32) then im_j2 (fun (f28 : Nat → Int32) (f29 : Nat → Int32) => (K f28 f29)) (fun K30 => (im_X5_takeAll_L121 (nI (kn k)) K30 (ob o) (nI k) 200 t 22 22 5000 (0 : Int32) a0.1 a0.2)) else (im_X5_takeAll_L160 (nI (kn k)) K (ob o) (nI k) 200 t 22 22 5000 (0 : Int32) a0.1 a0.2)) = K a1.1 a1.2 := by
    by_cases z2 : k = 2
    · obtain ⟨hx1, hmm⟩ := hx z2
      subst z2
      obtain ⟨a1, ha1, e1⟩ := lp_up (fun q p (a : (Nat → Int32) × (Nat → Int32)) => fun K => im_X5_takeAll_L40 K 22 22 (ob o) (nI 2) (nI (kn 2)) 200 t x1 q p a.1 a.2) (fun a => fun K => K a.1 a.2) 96
        (fun p a => Iv 2 mm r p a)
        (fun q a _ => by
          funext K
          rw [im_X5_takeAll_L40, if_pos (by decide)])
        (fun q p a hp ha => by
          have hL : pl 2 p < 144 := pl_L (k := 2) (by omega) (by show p < 100; omega)
          have hpc := pc_ok (k := 2) (mm := mm) (p := p) (by omega) hm hr hp
          have hat : im_X5_at (nI (pl 2 p)) (ob o) (nI 2) (nI (kn 2)) 200 t = some (r (pl 2 p)) := by rw [← hrr]; exact g_at (by omega) hL
          by_cases z : r (pl 2 p) = -1
          · obtain ⟨a', t1, t2⟩ := g_take (v := r (pl 2 p)) (by omega) hm hr hp ha (fun y => y) (fun y => absurd z y)
            refine ⟨a', t2, ?_⟩
            funext K
            rw [im_X5_takeAll_L40, if_neg (show ¬ (96 : Int32) ≤ nI p from nI_ge (b := 96) hp (by omega)), ev_j2, ev_j2, (pl_sq p (by omega)).2, ev_b1, hat, ev_b1, ev_lt, if_pos z, show (6 : Int32) = nI 6 from rfl, pk_div (by omega) (by omega) (by omega)]
            show im_b2 (im_X5_take (nI (p / 6)) (r (pl 2 p)) 1 22 22 a.1 a.2) _ = _
            rw [show im_X5_take (nI (p / 6)) (r (pl 2 p)) 1 22 22 a.1 a.2 = some a' from t1]
            rw [nI_1]
            rfl
          · obtain ⟨a', t1, t2⟩ := g_take (v := nI (pcN 2 mm r p)) (by omega) hm hr hp ha (fun y => absurd y z) (fun _ => rfl)
            refine ⟨a', t2, ?_⟩
            funext K
            rw [im_X5_takeAll_L40, if_neg (show ¬ (96 : Int32) ≤ nI p from nI_ge (b := 96) hp (by omega)), ev_j2, ev_j2, (pl_sq p (by omega)).2, ev_b1, hat, ev_b1, ev_lt, if_neg z, show (6 : Int32) = nI 6 from rfl, pk_div (by omega) (by omega) (by omega), ev_lt, ev_lt, show (12 : Int32) = nI 12 from rfl, pk_rem (by omega) (by omega) (by omega), pk_div (by omega) (by omega) (by omega), hx1, (tu_sq mm hmm (pl 2 p) hL).2.1, ev_b1, ev_lt]
            have hfin : im_b2 (im_X5_take (nI (p / 6)) (nI (pcN 2 mm r p)) 1 22 22 a.1 a.2) (fun f52 f53 => im_lt (nI p + (1 : Int32)) (fun v54 => (im_X5_takeAll_L40 K 22 22 (ob o) (nI 2) (nI (kn 2)) 200 t (nI mm) q v54 f52 f53))) = im_X5_takeAll_L40 K 22 22 (ob o) (nI 2) (nI (kn 2)) 200 t (nI mm) q (nI (p + 1)) a'.1 a'.2 := by
              rw [show im_X5_take (nI (p / 6)) (nI (pcN 2 mm r p)) 1 22 22 a.1 a.2 = some a' from t1]
              rw [nI_1]
              rfl
            by_cases y : tu 2 mm (pl 2 p) = 0
            · rw [if_pos y, ((hpc.2 z).2.1 y)]; exact hfin
            · rw [if_neg y, ((hpc.2 z).2.2 y)]; exact hfin) 96 0 a0 5000 (by omega) (by omega) hI0
      refine ⟨a1, ha1, fun K => ?_⟩
      rw [if_pos (by decide), ev_j2]
      exact congrFun e1 _
    · have hpl : ∀ p, pl k p = 2 + p := fun p => by rw [pl, if_neg z2]
      have htu : ∀ i, tu k mm i = 0 := fun i => by rw [tu, if_neg z2]
      have hL := b13 z2
      have hat : ∀ p, p < kn k * kS k → im_X5_at (nI p + 2) (ob o) (nI k) (nI (kn k)) 200 t = some (r (pl k p)) := by
        intro p hp
        rw [← hrr, hpl, show nI p + 2 = nI (2 + p) by rw [Nat.add_comm]; exact nI_add p 2]
        exact g_at hk (by omega)
      have hv : ∀ p, p < kn k * kS k → ∀ a, Iv k mm r p a → ∃ a', im_X5_take (nI (p / kS k)) (r (pl k p)) (nI (kB k)) 22 22 a.1 a.2 = some a' ∧ Iv k mm r (p + 1) a' := fun p hp a ha =>
        g_take hk hm hr hp ha (fun y => y) (fun y => ((pc_ok hk hm hr hp).2 y).2.1 (htu _))
      by_cases z3 : k = 3
      · subst z3
        obtain ⟨a1, ha1, e1⟩ := lp_up (fun q p (a : (Nat → Int32) × (Nat → Int32)) => fun K => im_X5_takeAll_L121 (nI (kn 3)) K (ob o) (nI 3) 200 t 22 22 q p a.1 a.2) (fun a => fun K => K a.1 a.2) 30
          (fun p a => Iv 3 mm r p a)
          (fun q a _ => by
            funext K
            rw [im_X5_takeAll_L121, ev_lt, if_pos (by decide)])
          (fun q p a hp ha => by
            obtain ⟨a', t1, t2⟩ := hv p hp a ha
            refine ⟨a', t2, ?_⟩
            funext K
            rw [im_X5_takeAll_L121, ev_lt, if_neg (show ¬ (6 : Int32) * nI (kn 3) ≤ nI p from nI_ge (b := 30) hp (by omega)), ev_lt, show nI p / 6 = nI (p / 6) from pk_div (d := 6) (by omega) (by omega) (by omega), ev_lt, hat p hp, ev_b1]
            rw [show im_X5_take (nI (p / 6)) (r (pl 3 p)) 1 22 22 a.1 a.2 = some a' from t1]
            rw [nI_1]
            rfl) 30 0 a0 5000 (by omega) (by omega) hI0
        refine ⟨a1, ha1, fun K => ?_⟩
        rw [if_neg (by decide), if_pos (by decide), ev_j2]
        exact congrFun e1 _
      · have hS : kS k = 3 ∧ kB k = 2 := by
          have : k = 0 ∨ k = 1 := by omega
          rcases this with rfl | rfl <;> exact ⟨rfl, rfl⟩
        obtain ⟨a1, ha1, e1⟩ := lp_up (fun q p (a : (Nat → Int32) × (Nat → Int32)) => fun K => im_X5_takeAll_L160 (nI (kn k)) K (ob o) (nI k) 200 t 22 22 q p a.1 a.2) (fun a => fun K => K a.1 a.2) (kn k * kS k)
          (fun p a => Iv k mm r p a)
          (fun q a _ => by
            funext K
            rw [im_X5_takeAll_L160, ev_lt, show (3 : Int32) * nI (kn k) = nI (kn k * kS k) by rw [hS.1, Nat.mul_comm]; exact pk_mul 3 (kn k), if_pos (nI_le (Nat.le_refl _) (by omega))])
          (fun q p a hp ha => by
            obtain ⟨a', t1, t2⟩ := hv p hp a ha
            refine ⟨a', t2, ?_⟩
            rw [hS.1, hS.2] at t1
            funext K
            rw [im_X5_takeAll_L160, ev_lt, show (3 : Int32) * nI (kn k) = nI (kn k * kS k) by rw [hS.1, Nat.mul_comm]; exact pk_mul 3 (kn k), if_neg (nI_ge hp (by omega)), ev_lt, show nI p / 3 = nI (p / 3) from pk_div (d := 3) (by omega) (by omega) (by omega), ev_lt, hat p hp, ev_b1]
            rw [show im_X5_take (nI (p / 3)) (r (pl k p)) 2 22 22 a.1 a.2 = some a' from t1]
            rw [nI_1]
            rfl) (kn k * kS k) 0 a0 5000 (by omega) (by omega) hI0
        refine ⟨a1, ha1, fun K => ?_⟩
        rw [if_neg (fun y => z2 ((k_2 hk).1 y)), if_neg (fun y => z3 ((k_3 hk).1 y))]
        exact congrFun e1 K
  obtain ⟨a1, ha1, e1⟩ := hmid
  have hfull : ∀ s, s < kn k → a1.2 s = nI (xs k mm r s (kS k)) ∧ a1.1 s = ob (els k r s (kS k)) := by
    intro s hs
    have h1 := ha1 s hs
    have h2 : (s + 1) * kS k ≤ kn k * kS k := Nat.mul_le_mul_right _ hs
    rw [Nat.succ_mul] at h2
    rwa [show min (kS k) (kn k * kS k - s * kS k) = kS k by omega] at h1
  -- signed
  obtain ⟨w, ⟨hw1, _⟩, e2⟩ := lp_up (fun q s (w : Nat → Int32) => im_X5_takeAll_L194 (nI (kn k)) a1.1 22 22 (nI k) fm (nI (kR k)) q s w) (fun w => some (a1.1, w)) (kn k)
    (fun s w => Rp s w (tw k mm key r) ∧ ∀ j, s ≤ j → j < kn k → w j = nI (xs k mm r j (kS k)))
    (fun q w _ => by
      show im_X5_takeAll_L194 (nI (kn k)) a1.1 22 22 (nI k) fm (nI (kR k)) (q + 1) (nI (kn k)) w = _
      rw [im_X5_takeAll_L194, if_pos (nI_le (Nat.le_refl _) (by omega))])
    (fun q s w hs hw => by
      refine ⟨upd w s (Gi (tw k mm key r s)), ⟨hw.1.more rfl, fun j hj hj2 => by rw [up_n _ _ (by omega)]; exact hw.2 j (by omega) hj2⟩, ?_⟩
      show im_X5_takeAll_L194 (nI (kn k)) a1.1 22 22 (nI k) fm (nI (kR k)) (q + 1) (nI s) w = im_X5_takeAll_L194 (nI (kn k)) a1.1 22 22 (nI k) fm (nI (kR k)) q (nI (s + 1)) (upd w s (Gi (tw k mm key r s)))
      rw [im_X5_takeAll_L194, if_neg (nI_ge hs (by omega)), ev_j2, ev_ld (by omega) (by omega), (hfull s hs).2, g_sig (w := fun j => BitVec.ofNat 6 (xs k mm r j (kS k))) hk hK ((hw.2 s (Nat.le_refl _) hs).trans (tw_Gi (key := key) hk hm hr hs)) hs, ev_b1]
      by_cases z : els k r s (kS k) = true
      · rw [if_neg (fun y => by rw [ob_0, z] at y; cases y)]
        show im_st _ _ _ _ _ = _
        rw [ev_st (by omega) (by omega), ev_lt, nI_1, tw, if_pos z]; rfl
      · rw [if_pos ((ob_0 _).2 (by simpa using z))]
        show im_st _ _ _ _ _ = _
        rw [ev_st (by omega) (by omega), ev_lt, nI_1, tw, if_neg z]) (kn k) 0 a1.2 5000 (by omega) (by omega) ⟨fun i hi => by omega, fun j _ hj => (hfull j hj).1⟩
  refine ⟨a1.1, w, ?_, fun s hs => (hfull s hs).2, hw1⟩
  rw [im_X5_takeAll, ev_j2]
  refine (congrFun e0 _).trans ?_
  rw [ev_j2]
  refine (e1 _).trans ?_
  exact e2
