theorem le_ptw {lo hi : Nat} {S T : Nat → Nat} (h : ∀ c, lo ≤ c → c < hi → S c ≤ T c) : Le lo hi S T := by
  by_cases hall : ∀ c, lo ≤ c → c < hi → S c = T c
  · exact Or.inr hall
  · have hex : ∃ c, lo ≤ c ∧ c < hi ∧ S c ≠ T c := by
      apply Classical.byContradiction
      intro w
      apply hall
      intro c q1 q2
      apply Classical.byContradiction
      intro w2
      exact w ⟨c, q1, q2, w2⟩
    obtain ⟨c0, hc0, hmin⟩ := pk_least (fun c => lo ≤ c ∧ c < hi ∧ S c ≠ T c) hex
    refine Or.inl ⟨c0, hc0.1, hc0.2.1, fun c q1 q2 => ?_, ?_⟩
    · apply Classical.byContradiction
      intro w2
      exact hmin c q2 ⟨q1, by omega, w2⟩
    · have := h c0 hc0.1 hc0.2.1
      have := hc0.2.2
      omega
theorem lx_tri (lo hi : Nat) (S T : Nat → Nat) : Lx lo hi S T ∨ (∀ c, lo ≤ c → c < hi → S c = T c) ∨ Lx lo hi T S := by
  by_cases hall : ∀ c, lo ≤ c → c < hi → S c = T c
  · exact Or.inr (Or.inl hall)
  · have hex : ∃ c, lo ≤ c ∧ c < hi ∧ S c ≠ T c := by
      apply Classical.byContradiction
      intro w
      apply hall
      intro c q1 q2
      apply Classical.byContradiction
      intro w2
      exact w ⟨c, q1, q2, w2⟩
    obtain ⟨c0, hc0, hmin⟩ := pk_least (fun c => lo ≤ c ∧ c < hi ∧ S c ≠ T c) hex
    have heq : ∀ c, lo ≤ c → c < c0 → S c = T c := fun c q1 q2 => by
      apply Classical.byContradiction
      intro w2
      exact hmin c q2 ⟨q1, by omega, w2⟩
    rcases Nat.lt_or_ge (S c0) (T c0) with z | z
    · exact Or.inl ⟨c0, hc0.1, hc0.2.1, heq, z⟩
    · exact Or.inr (Or.inr ⟨c0, hc0.1, hc0.2.1, fun c q1 q2 => (heq c q1 q2).symm, by have := hc0.2.2; omega⟩)
theorem lx_irr {lo hi : Nat} {S T : Nat → Nat} (h : Lx lo hi S T) (h2 : Le lo hi T S) : False := by
  obtain ⟨i, i1, i2, i3, i4⟩ := h
  rcases h2 with ⟨j, j1, j2, j3, j4⟩ | h2
  · rcases Nat.lt_trichotomy i j with z | z | z
    · have := j3 i i1 z; omega
    · subst z; omega
    · have := i3 j j1 z; omega
  · have := h2 i i1 i2; omega
/-- a row as a number -/
def cdz (lo : Nat) (P : Nat → Nat) : Nat → Nat
  | 0 => 0
  | k + 1 => cdz lo P k * 22 + P (lo + k)
theorem cd_lt {lo hi : Nat} {P T : Nat → Nat} (h : Lx lo hi P T) (hP : ∀ c, lo ≤ c → c < hi → P c < 22) : cdz lo P (hi - lo) < cdz lo T (hi - lo) := by
  obtain ⟨i, i1, i2, i3, i4⟩ := h
  have heq : ∀ k, lo + k ≤ i → cdz lo P k = cdz lo T k := by
    intro k
    induction k with
    | zero => intro _; rfl
    | succ k ih => intro hk; rw [cdz, cdz, ih (by omega), i3 (lo + k) (by omega) (by omega)]
  have hlt : ∀ d, lo + (i - lo + 1 + d) ≤ hi → cdz lo P (i - lo + 1 + d) < cdz lo T (i - lo + 1 + d) := by
    intro d
    induction d with
    | zero =>
      intro _
      rw [Nat.add_zero, cdz, cdz, heq (i - lo) (by omega), show lo + (i - lo) = i by omega]
      omega
    | succ d ih =>
      intro hd
      have := ih (by omega)
      have hp := hP (lo + (i - lo + 1 + d)) (by omega) (by omega)
      rw [← Nat.add_assoc, cdz, cdz]
      omega
  have := hlt (hi - lo - (i - lo + 1)) (by omega)
  rwa [show i - lo + 1 + (hi - lo - (i - lo + 1)) = hi - lo by omega] at this
theorem cd_max {lo k : Nat} {P : Nat → Nat} (hk : k ≤ 4) (hP : ∀ c, lo ≤ c → c < lo + k → P c < 22) : cdz lo P k < 234256 := by
  have : ∀ j, j ≤ k → cdz lo P j < 22 ^ j := by
    intro j
    induction j with
    | zero => intro _; exact Nat.zero_lt_one
    | succ j ih =>
      intro hj
      have h1 := ih (by omega)
      have h2 := hP (lo + j) (by omega) (by omega)
      rw [cdz, Nat.pow_succ]
      omega
  have h1 := this k (Nat.le_refl k)
  have h2 : 22 ^ k ≤ 22 ^ 4 := Nat.pow_le_pow_right (by omega) hk
  omega
/-! the first row -/
def Ga (n e : Nat) (gone : Nat → Bool) (G : Nat → Nat) : Prop := (∀ c, c < e → G c < n ∧ gone (G c) = true) ∧ (∀ c, c + 1 < e → G c < G (c + 1)) ∧ ∀ i, i < n → gone i = true → ∃ c, c < e ∧ G c = i
theorem g_begin {n v : Nat} {fg fp : Nat → Int32} {gone : Nat → Bool} (hf : Lp n fg gone) (hn : n ≤ 22) (hv : gf_c n gone + v ≤ 8) (hvn : v ≤ n - gf_c n gone) :
    ∃ f' P, im_X5_begin (nI (gf_c n gone)) (nI v) (nI n) 22 8 fg fp = some f' ∧ (∀ c, c < gf_c n gone + v → f' c = nI (P c)) ∧ Ga n (gf_c n gone) gone P ∧ Vs n gone (gf_c n gone) (gf_c n gone + v) P ∧ ∀ T, Vs n gone (gf_c n gone) (gf_c n gone + v) T → Le (gf_c n gone) (gf_c n gone + v) P T := by
  -- the gone ones
  obtain ⟨s, ⟨hs1, G, hG1, hG2, hG3⟩, e1⟩ := lp_up (fun q k (s : Int32 × (Nat → Int32)) => fun K => im_X5_begin_L5 (nI n) K 22 fg 8 q s.1 k s.2) (fun s => fun K => K s.1 s.2) n
    (fun k s => s.1 = nI (gf_c k gone) ∧ ∃ G : Nat → Nat, (∀ c, c < gf_c k gone → s.2 c = nI (G c) ∧ G c < k ∧ gone (G c) = true) ∧ (∀ c, c + 1 < gf_c k gone → G c < G (c + 1)) ∧ ∀ i, i < k → gone i = true → ∃ c, c < gf_c k gone ∧ G c = i)
    (fun q s _ => by
      funext K
      rw [im_X5_begin_L5, if_pos (nI_le (Nat.le_refl n) (by omega))])
    (fun q k s hk hs => by
      obtain ⟨h1, G, h2, h3, h4⟩ := hs
      have hmono := gf_c_mono gone (show k + 1 ≤ n from hk)
      cases hl : gone k with
      | false =>
        have hc : gf_c (k + 1) gone = gf_c k gone := by rw [gf_c, hl]; rfl
        refine ⟨s, ⟨by rw [hc]; exact h1, G, by rw [hc]; exact fun c q1 => ⟨(h2 c q1).1, by have := (h2 c q1).2.1; omega, (h2 c q1).2.2⟩, by rw [hc]; exact h3, by
          rw [hc]
          intro i q1 q2
          by_cases z : i = k
          · rw [z, hl] at q2; cases q2
          · exact h4 i (by omega) q2⟩, ?_⟩
        funext K
        rw [im_X5_begin_L5, if_neg (nI_ge hk (by omega)), ev_j2, ev_ld (by omega) (by omega), hf k hk, hl, if_pos (by decide)]
        show im_lt _ _ = _
        rw [ev_lt, nI_1]
      | true =>
        have hc : gf_c (k + 1) gone = gf_c k gone + 1 := by rw [gf_c, hl]; rfl
        refine ⟨(nI (gf_c (k + 1) gone), upd s.2 (gf_c k gone) (nI k)), ⟨rfl, fun c => if c < gf_c k gone then G c else k, fun c q1 => ?_, fun c q1 => ?_, fun i q1 q2 => ?_⟩, ?_⟩
        · by_cases z : c < gf_c k gone
          · simp only [z, if_true]
            rw [up_n _ _ (by omega)]
            exact ⟨(h2 c z).1, by have := (h2 c z).2.1; omega, (h2 c z).2.2⟩
          · simp only [z, if_false]
            rw [show c = gf_c k gone by omega, up_s]
            exact ⟨rfl, by omega, hl⟩
        · by_cases z : c + 1 < gf_c k gone
          · simp only [z, show c < gf_c k gone by omega, if_true]; exact h3 c z
          · simp only [z, show c < gf_c k gone by omega, if_true, if_false]; exact (h2 c (by omega)).2.1
        · by_cases z : i = k
          · exact ⟨gf_c k gone, by omega, by simp [z]⟩
          · obtain ⟨c, c1, c2⟩ := h4 i (by omega) q2
            exact ⟨c, by omega, by simp [c1, c2]⟩
        · funext K
          rw [im_X5_begin_L5, if_neg (nI_ge hk (by omega)), ev_j2, ev_ld (by omega) (by omega), hf k hk, hl, if_neg (by decide), h1, ev_st (by omega) (by omega), ev_lt]
          show im_lt _ _ = _
          rw [ev_lt, nI_1, nI_1, hc]) n 0 (0, fp) 5000 (by omega) (by omega) ⟨rfl, fun _ => 0, fun c q => by simp [gf_c] at q, fun c q => by simp [gf_c] at q, fun i q => by omega⟩
  -- then the others
  have hna : ∀ a, a ≤ n → gf_c a gone ≤ a := fun a _ => gf_c_max a gone
  have hnn : ∀ a, a ≤ n → a - gf_c a gone ≤ n - gf_c n gone := by
    intro a ha
    have : ∀ d, a + d ≤ n → a - gf_c a gone ≤ (a + d) - gf_c (a + d) gone := by
      intro d
      induction d with
      | zero => intro _; exact Nat.le_refl _
      | succ d ih =>
        intro hd
        have h1 := ih (by omega)
        have h2 := gf_c_max (a + d) gone
        rw [← Nat.add_assoc, gf_c]
        split <;> omega
    have := this (n - a) (by omega)
    rwa [show a + (n - a) = n by omega] at this
  have key : ∀ (d a q : Nat) (f : Nat → Int32), a + d = n → d < q → a - gf_c a gone ≤ v →
      (∃ P : Nat → Nat, (∀ c, c < gf_c n gone + (a - gf_c a gone) → f c = nI (P c)) ∧ (∀ c, c < gf_c n gone → P c = G c) ∧ (∀ c, gf_c n gone ≤ c → c < gf_c n gone + (a - gf_c a gone) → P c < a ∧ gone (P c) = false) ∧ (∀ c, gf_c n gone ≤ c → c + 1 < gf_c n gone + (a - gf_c a gone) → P c < P (c + 1)) ∧ ∀ T, Vs n gone (gf_c n gone) (gf_c n gone + v) T → (∀ c, gf_c n gone ≤ c → c < gf_c n gone + (a - gf_c a gone) → P c ≤ T c) ∧ (a - gf_c a gone < v → a ≤ T (gf_c n gone + (a - gf_c a gone)))) →
      ∃ f' P, im_X5_begin_L44 (nI (gf_c n gone)) (nI v) 22 fg 8 q (nI (gf_c n gone + (a - gf_c a gone))) (nI a) f = some f' ∧ (∀ c, c < gf_c n gone + v → f' c = nI (P c)) ∧ (∀ c, c < gf_c n gone → P c = G c) ∧ Vs n gone (gf_c n gone) (gf_c n gone + v) P ∧ ∀ T, Vs n gone (gf_c n gone) (gf_c n gone + v) T → ∀ c, gf_c n gone ≤ c → c < gf_c n gone + v → P c ≤ T c := by
    intro d
    induction d with
    | zero =>
      intro a q f ha hq hav ⟨P, p1, p2, p3, p4, p5⟩
      obtain ⟨g, rfl⟩ : ∃ g, q = g + 1 := ⟨q - 1, by omega⟩
      have han : a = n := by omega
      subst han
      have hfull : a - gf_c a gone = v := by omega
      rw [hfull] at p1 p3 p4 p5 ⊢
      refine ⟨f, P, ?_, p1, p2, ⟨p3, p4⟩, fun T hT => (p5 T hT).1⟩
      rw [im_X5_begin_L44, ev_lt, nI_add, if_pos (nI_le (Nat.le_refl _) (by omega))]
    | succ d ih =>
      intro a q f ha hq hav ⟨P, p1, p2, p3, p4, p5⟩
      obtain ⟨g, rfl⟩ : ∃ g, q = g + 1 := ⟨q - 1, by omega⟩
      have ham := gf_c_max a gone
      by_cases hfull : a - gf_c a gone = v
      · rw [hfull] at p1 p3 p4 p5 ⊢
        refine ⟨f, P, ?_, p1, p2, ⟨fun c q1 q2 => ⟨by have := (p3 c q1 q2).1; omega, (p3 c q1 q2).2⟩, p4⟩, fun T hT => (p5 T hT).1⟩
        rw [im_X5_begin_L44, ev_lt, nI_add, if_pos (nI_le (Nat.le_refl _) (by omega))]
      · cases hl : gone a with
        | true =>
          have hc : gf_c (a + 1) gone = gf_c a gone + 1 := by rw [gf_c, hl]; rfl
          have hc2 : a + 1 - gf_c (a + 1) gone = a - gf_c a gone := by omega
          obtain ⟨f', P', r1, r2⟩ := ih (a + 1) g f (by omega) (by omega) (by omega) ⟨P, by rw [hc2]; exact p1, p2, by rw [hc2]; exact fun c q1 q2 => ⟨by have := (p3 c q1 q2).1; omega, (p3 c q1 q2).2⟩, by rw [hc2]; exact p4, fun T hT => by
            rw [hc2]
            refine ⟨(p5 T hT).1, fun q1 => ?_⟩
            have t1 := (p5 T hT).2 q1
            have t2 := (hT.1 (gf_c n gone + (a - gf_c a gone)) (by omega) (by omega)).2
            apply Classical.byContradiction
            intro z
            have : T (gf_c n gone + (a - gf_c a gone)) = a := by omega
            rw [this, hl] at t2
            cases t2⟩
          refine ⟨f', P', ?_, r2⟩
          rw [im_X5_begin_L44, ev_lt, nI_add, if_neg (nI_ge (by omega) (by omega)), ev_j2, ev_ld (by omega) (by omega), hf a (by omega), hl, if_neg (by decide)]
          show im_lt _ _ = _
          rw [ev_lt, nI_1]
          rw [hc2] at r1
          exact r1
        | false =>
          have hc : gf_c (a + 1) gone = gf_c a gone := by rw [gf_c, hl]; rfl
          have hc2 : a + 1 - gf_c (a + 1) gone = a - gf_c a gone + 1 := by omega
          obtain ⟨f', P', r1, r2⟩ := ih (a + 1) g (upd f (gf_c n gone + (a - gf_c a gone)) (nI a)) (by omega) (by omega) (by omega) ⟨fun c => if c = gf_c n gone + (a - gf_c a gone) then a else P c, by
            rw [hc2]
            intro c q1
            by_cases z : c = gf_c n gone + (a - gf_c a gone)
            · subst z; rw [up_s]; simp
            · rw [up_n _ _ z, p1 c (by omega)]; simp [z], fun c q1 => by show (if c = gf_c n gone + (a - gf_c a gone) then a else P c) = G c; rw [if_neg (by omega)]; exact p2 c q1, by
            rw [hc2]
            intro c q1 q2
            by_cases z : c = gf_c n gone + (a - gf_c a gone)
            · simp only [z, if_true]; exact ⟨by omega, hl⟩
            · simp only [z, if_false]; exact ⟨by have := (p3 c q1 (by omega)).1; omega, (p3 c q1 (by omega)).2⟩, by
            rw [hc2]
            intro c q1 q2
            simp only [show ¬ c = gf_c n gone + (a - gf_c a gone) by omega, if_false]
            by_cases z : c + 1 = gf_c n gone + (a - gf_c a gone)
            · simp only [z, if_true]; exact (p3 c q1 (by omega)).1
            · simp only [z, if_false]; exact p4 c q1 (by omega), fun T hT => by
            rw [hc2]
            have t1 := (p5 T hT).2 (by omega)
            refine ⟨fun c q1 q2 => ?_, fun q1 => ?_⟩
            · by_cases z : c = gf_c n gone + (a - gf_c a gone)
              · simp only [z, if_true]; exact t1
              · simp only [z, if_false]; exact (p5 T hT).1 c q1 (by omega)
            · have := hT.2 (gf_c n gone + (a - gf_c a gone)) (by omega) (by omega)
              rw [show gf_c n gone + (a - gf_c a gone + 1) = gf_c n gone + (a - gf_c a gone) + 1 by omega]
              omega⟩
          refine ⟨f', P', ?_, r2⟩
          rw [im_X5_begin_L44, ev_lt, nI_add, if_neg (nI_ge (by omega) (by omega)), ev_j2, ev_ld (by omega) (by omega), hf a (by omega), hl, if_pos (by decide), ev_st (by omega) (by omega), ev_lt]
          show im_lt _ _ = _
          rw [ev_lt, nI_1, nI_1]
          rw [hc2, ← Nat.add_assoc] at r1
          exact r1
  obtain ⟨f', P, r1, r2, r3, r4, r5⟩ := key n 0 5000 s.2 (by omega) (by omega) (by omega) ⟨G, fun c q1 => (hG1 c (by simpa [gf_c] using q1)).1, fun c _ => rfl, fun c q1 q2 => by simp [gf_c] at q2; omega, fun c q1 q2 => by simp [gf_c] at q2; omega, fun T hT => ⟨fun c q1 q2 => by simp [gf_c] at q2; omega, fun _ => Nat.zero_le _⟩⟩
  refine ⟨f', P, ?_, r2, ⟨fun c hc => by rw [r3 c hc]; exact (hG1 c hc).2, fun c hc => by rw [r3 c (by omega), r3 (c + 1) hc]; exact hG2 c hc, fun i q1 q2 => by
    obtain ⟨c, c1, c2⟩ := hG3 i q1 q2
    exact ⟨c, c1, by rw [r3 c c1]; exact c2⟩⟩, r4, fun T hT => le_ptw (r5 T hT)⟩
  rw [im_X5_begin, ev_j2]
  refine (congrFun e1 _).trans ?_
  rw [hs1]
  simp only [gf_c, Nat.sub_zero, Nat.add_zero] at r1
  exact r1
