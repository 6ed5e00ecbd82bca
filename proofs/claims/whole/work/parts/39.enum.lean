/-! The reference's list of places: all of them, one behind the other. -/
theorem g_lost {n : Nat} {f : Nat → Int32} {gone : Nat → Bool} (hf : Lp n f gone) (hn : n ≤ 22) : im_X5_lost (nI n) 22 f = some (nI (gf_c n gone)) := by
  obtain ⟨s, hs, e⟩ := lp_up (fun q k (s : Int32) => im_X5_lost_L4 (nI n) 22 f q s k) (fun s => some s) n (fun k s => s = nI (gf_c k gone))
    (fun q s _ => by
      show im_X5_lost_L4 (nI n) 22 f (q + 1) s (nI n) = some s
      rw [im_X5_lost_L4, if_pos (nI_le (Nat.le_refl n) (by omega))])
    (fun q k s hk hs => ⟨nI (gf_c (k + 1) gone), rfl, by
      show im_X5_lost_L4 (nI n) 22 f (q + 1) s (nI k) = im_X5_lost_L4 (nI n) 22 f q (nI (gf_c (k + 1) gone)) (nI (k + 1))
      rw [im_X5_lost_L4, if_neg (nI_ge hk (by omega)), ev_j1, ev_ld (by omega) (by omega), hf k hk, hs]
      cases hl : gone k with
      | false =>
        rw [if_pos (by decide)]
        show im_lt (nI k + 1) _ = _
        rw [ev_lt, nI_1, gf_c, hl]
        rfl
      | true =>
        rw [if_neg (by decide), ev_lt]
        show im_lt (nI k + 1) _ = _
        rw [ev_lt, nI_1, nI_1, gf_c, hl]
        rfl⟩) n 0 0 5000 (by omega) (by omega) rfl
  rw [hs] at e
  exact e
theorem g_behind {n p : Nat} {f : Nat → Int32} {gone : Nat → Bool} (hf : Lp n f gone) (hn : n ≤ 22) (hp : p < n) :
    ∃ b, im_X5_behind (nI p) (nI n) 22 f = some (nI b) ∧ p < b ∧ b ≤ n ∧ (b < n → gone b = false) ∧ ∀ i, p < i → i < b → gone i = true := by
  have key : ∀ (d k q : Nat), k + d = n → d < q → p < k → (∀ i, p < i → i < k → gone i = true) → ∃ b, im_X5_behind_L4 (nI n) 22 f q (nI k) = some (nI b) ∧ p < b ∧ b ≤ n ∧ (b < n → gone b = false) ∧ ∀ i, p < i → i < b → gone i = true := by
    intro d
    induction d with
    | zero =>
      intro k q hk hq hpk hg
      obtain ⟨g, rfl⟩ : ∃ g, q = g + 1 := ⟨q - 1, by omega⟩
      refine ⟨k, ?_, hpk, by omega, fun z => by omega, hg⟩
      rw [im_X5_behind_L4, if_pos (nI_le (by omega) (by omega))]
    | succ d ih =>
      intro k q hk hq hpk hg
      obtain ⟨g, rfl⟩ : ∃ g, q = g + 1 := ⟨q - 1, by omega⟩
      cases hl : gone k with
      | false =>
        refine ⟨k, ?_, hpk, by omega, fun _ => hl, hg⟩
        rw [im_X5_behind_L4, if_neg (nI_ge (by omega) (by omega)), ev_ld (by omega) (by omega), hf k (by omega), hl, if_pos (by decide)]
      | true =>
        obtain ⟨b, h1, h2⟩ := ih (k + 1) g (by omega) (by omega) (by omega) (fun i h1 h2 => by
          by_cases z : i = k
          · rw [z]; exact hl
          · exact hg i h1 (by omega))
        refine ⟨b, ?_, h2⟩
        rw [im_X5_behind_L4, if_neg (nI_ge (by omega) (by omega)), ev_ld (by omega) (by omega), hf k (by omega), hl, if_neg (by decide), ev_lt, nI_1]
        exact h1
  obtain ⟨b, h1, h2⟩ := key (n - (p + 1)) (p + 1) 5000 (by omega) (by omega) (by omega) (fun i h1 h2 => by omega)
  refine ⟨b, ?_, h2⟩
  rw [im_X5_behind, ev_lt, nI_1]
  exact h1
/-- a row of places that are not gone, one behind the other -/
def Vs (n : Nat) (gone : Nat → Bool) (lo hi : Nat) (T : Nat → Nat) : Prop := (∀ c, lo ≤ c → c < hi → T c < n ∧ gone (T c) = false) ∧ ∀ c, lo ≤ c → c + 1 < hi → T c < T (c + 1)
theorem g_fill {n e v : Nat} {fg : Nat → Int32} {gone : Nat → Bool} (hf : Lp n fg gone) (hn : n ≤ 22) (hv : e + v ≤ 8) :
    ∀ (d i p q : Nat) (f : Nat → Int32), i + d = e + v → d < q → p ≤ n → (p < n → gone p = false) →
      ∃ (i' : Nat) (f' : Nat → Int32) (S : Nat → Nat), (∀ K, im_X5_next_L34 (nI e) (nI v) K (nI n) 8 22 fg q (nI p) (nI i) f = K (nI i') f') ∧ i ≤ i' ∧ i' ≤ e + v ∧ (∀ c, c < i → f' c = f c) ∧
        (i' = e + v → (∀ c, i ≤ c → c < e + v → f' c = nI (S c)) ∧ Vs n gone i (e + v) S ∧ (i < e + v → S i = p)) ∧ ∀ T, Vs n gone i (e + v) T → (i < e + v → p ≤ T i) → i' = e + v ∧ ∀ c, i ≤ c → c < e + v → S c ≤ T c := by
  intro d
  induction d with
  | zero =>
    intro i p q f hi hq hp hgp
    obtain ⟨g, rfl⟩ : ∃ g, q = g + 1 := ⟨q - 1, by omega⟩
    refine ⟨i, f, fun _ => 0, fun K => ?_, Nat.le_refl i, by omega, fun c _ => rfl, fun _ => ⟨fun c h1 h2 => by omega, ⟨fun c h1 h2 => by omega, fun c h1 h2 => by omega⟩, fun z => by omega⟩, fun T _ _ => ⟨by omega, fun c h1 h2 => by omega⟩⟩
    rw [im_X5_next_L34, ev_lt, nI_add, if_pos (nI_le (by omega) (by omega))]
  | succ d ih =>
    intro i p q f hi hq hp hgp
    obtain ⟨g, rfl⟩ : ∃ g, q = g + 1 := ⟨q - 1, by omega⟩
    by_cases hpn : p < n
    · obtain ⟨b, eb, hb1, hb2, hb3, hb4⟩ := g_behind hf hn hpn
      obtain ⟨i', f', S, hK, h1, h2, h3, h4, h5⟩ := ih (i + 1) b g (upd f i (nI p)) (by omega) (by omega) hb2 hb3
      refine ⟨i', f', fun c => if c = i then p else S c, fun K => ?_, by omega, h2, fun c hc => (h3 c (by omega)).trans (up_n _ _ (by omega)), fun z => ?_, fun T hT hpT => ?_⟩
      · rw [im_X5_next_L34, ev_lt, nI_add, if_neg (nI_ge (by omega) (by omega)), if_neg (nI_ge hpn (by omega)), ev_st (by omega) (by omega), eb, ev_b1, ev_lt, nI_1]
        exact hK K
      · obtain ⟨a1, a2, a3⟩ := h4 z
        refine ⟨fun c q1 q2 => ?_, ⟨fun c q1 q2 => ?_, fun c q1 q2 => ?_⟩, fun _ => if_pos rfl⟩
        · by_cases w : c = i
          · subst w; rw [h3 c (by omega), up_s]; simp
          · rw [a1 c (by omega) q2]; simp [w]
        · by_cases w : c = i
          · subst w; simp only [if_true]; exact ⟨hpn, hgp hpn⟩
          · simp only [w, if_false]; exact a2.1 c (by omega) q2
        · by_cases w : c = i
          · subst w
            simp only [if_true, show ¬ c + 1 = c by omega, if_false]
            rw [a3 q2]; exact hb1
          · simp only [w, if_false, show ¬ c + 1 = i by omega]
            exact a2.2 c (by omega) q2
      · have hpT := hpT (by omega)
        obtain ⟨g1, g2⟩ := h5 T ⟨fun c q1 q2 => hT.1 c (by omega) q2, fun c q1 q2 => hT.2 c (by omega) q2⟩ (fun q1 => by
          have t1 := hT.2 i (Nat.le_refl i) q1
          have t2 := hT.1 (i + 1) (by omega) q1
          apply Classical.byContradiction
          intro z
          have := hb4 (T (i + 1)) (by omega) (by omega)
          rw [t2.2] at this
          cases this)
        refine ⟨g1, fun c q1 q2 => ?_⟩
        by_cases w : c = i
        · subst w; simp only [if_true]; exact hpT
        · simp only [w, if_false]; exact g2 c (by omega) q2
    · refine ⟨i, f, fun _ => 0, fun K => ?_, Nat.le_refl i, by omega, fun c _ => rfl, fun z => by omega, fun T hT hpT => ?_⟩
      · rw [im_X5_next_L34, ev_lt, nI_add, if_neg (nI_ge (by omega) (by omega)), if_pos (nI_le (by omega) (by omega))]
      · exfalso
        have := hpT (by omega)
        have := (hT.1 i (Nat.le_refl i) (by omega)).1
        omega
/-- ahead of, by the first place in which they differ -/
def Lx (lo hi : Nat) (P T : Nat → Nat) : Prop := ∃ i, lo ≤ i ∧ i < hi ∧ (∀ c, lo ≤ c → c < i → P c = T c) ∧ P i < T i
def Le (lo hi : Nat) (P T : Nat → Nat) : Prop := Lx lo hi P T ∨ ∀ c, lo ≤ c → c < hi → P c = T c
theorem g_next {n e v : Nat} {fg fp : Nat → Int32} {gone : Nat → Bool} {P : Nat → Nat} (hf : Lp n fg gone) (hn : n ≤ 22) (hv : e + v ≤ 8) (hv0 : 0 < v) (hP : ∀ c, c < e + v → fp c = nI (P c)) (hV : Vs n gone e (e + v) P) :
    ∃ r f', im_X5_next (nI e) (nI v) (nI n) 22 8 fg fp = some (r, f') ∧ ((r = 1 ∧ ∃ P', (∀ c, c < e + v → f' c = nI (P' c)) ∧ (∀ c, c < e → P' c = P c) ∧ Vs n gone e (e + v) P' ∧ Lx e (e + v) P P' ∧ ∀ T, Vs n gone e (e + v) T → Lx e (e + v) P T → Le e (e + v) P' T) ∨ (r = 0 ∧ ∀ T, Vs n gone e (e + v) T → ¬ Lx e (e + v) P T)) := by
  have key : ∀ (k : Nat) (q : Nat) (f : Nat → Int32), k ≤ v → k < q → (∀ c, c < e + k → f c = nI (P c)) → (∀ T, Vs n gone e (e + v) T → ∀ i, e + k ≤ i → i < e + v → ¬ ((∀ c, e ≤ c → c < i → P c = T c) ∧ P i < T i)) →
      ∃ r f', im_X5_next_L9 (nI e) 8 (nI n) 22 fg (nI v) q (nI (e + k) + (-1)) 0 f = some (r, f') ∧ ((r = 1 ∧ ∃ P', (∀ c, c < e + v → f' c = nI (P' c)) ∧ (∀ c, c < e → P' c = P c) ∧ Vs n gone e (e + v) P' ∧ Lx e (e + v) P P' ∧ ∀ T, Vs n gone e (e + v) T → Lx e (e + v) P T → Le e (e + v) P' T) ∨ (r = 0 ∧ ∀ T, Vs n gone e (e + v) T → ¬ Lx e (e + v) P T)) := by
    intro k
    induction k with
    | zero =>
      intro q f _ hq _ hno
      obtain ⟨g, rfl⟩ : ∃ g, q = g + 1 := ⟨q - 1, by omega⟩
      refine ⟨0, f, ?_, Or.inr ⟨rfl, fun T hT ⟨i, h1, h2, h3, h4⟩ => hno T hT i (by omega) h2 ⟨h3, h4⟩⟩⟩
      have hlt : nI (e + 0) + (-1) < nI e := by
        rw [Nat.add_zero]
        cases e with
        | zero => decide
        | succ e => rw [pk_m1]; exact nI_lt (by omega) (by omega)
      rw [im_X5_next_L9, if_pos hlt, ev_as (Or.inl rfl)]
    | succ k ih =>
      intro q f hkv hq hfP hno
      obtain ⟨g, rfl⟩ : ∃ g, q = g + 1 := ⟨q - 1, by omega⟩
      obtain ⟨hPn, hPg⟩ := hV.1 (e + k) (by omega) (by omega)
      obtain ⟨b, eb, hb1, hb2, hb3, hb4⟩ := g_behind hf hn hPn
      obtain ⟨i', f', S, hK, h1, h2, h3, h4, h5⟩ := g_fill hf hn hv (v - k) (e + k) b 5000 f (by omega) (by omega) hb2 hb3
      have hstep : ∀ (r : Int32) (f9 : Nat → Int32), (if nI i' = nI (e + v) then im_X5_next_L9 (nI e) 8 (nI n) 22 fg (nI v) g (nI (e + k) + (-1)) 1 f' else im_X5_next_L9 (nI e) 8 (nI n) 22 fg (nI v) g (nI (e + k) + (-1)) 0 f') = some (r, f9) → im_X5_next_L9 (nI e) 8 (nI n) 22 fg (nI v) (g + 1) (nI (e + (k + 1)) + (-1)) 0 f = some (r, f9) := by
        intro r f9 hx
        rw [← Nat.add_assoc, pk_m1, im_X5_next_L9, if_neg (nI_nlt (by omega) (by omega)), if_pos rfl, ev_ld (by omega) (by omega), hfP (e + k) (by omega), eb, ev_b1, ev_j2, hK, ev_j1, ev_lt, nI_add]
        by_cases z : nI i' = nI (e + v)
        · rw [if_pos z] at hx ⊢
          show im_lt _ _ = _
          rw [ev_lt]; exact hx
        · rw [if_neg z] at hx ⊢
          show im_lt _ _ = _
          rw [ev_lt]; exact hx
      -- a row T that first differs at e + k gives a full fill
      have hT1 : ∀ T, Vs n gone e (e + v) T → (∀ c, e ≤ c → c < e + k → P c = T c) → P (e + k) < T (e + k) → i' = e + v ∧ ∀ c, e + k ≤ c → c < e + v → S c ≤ T c := fun T hT _ hlt => by
        refine h5 T ⟨fun c q1 q2 => hT.1 c (by omega) q2, fun c q1 q2 => hT.2 c (by omega) q2⟩ (fun _ => ?_)
        have t2 := hT.1 (e + k) (by omega) (by omega)
        apply Classical.byContradiction
        intro z
        have := hb4 (T (e + k)) hlt (by omega)
        rw [t2.2] at this
        cases this
      by_cases hfull : i' = e + v
      · obtain ⟨a1, a2, a3⟩ := h4 hfull
        have a3 := a3 (by omega)
        refine ⟨1, f', hstep 1 f' ?_, Or.inl ⟨rfl, fun c => if c < e + k then P c else S c, fun c hc => ?_, fun c hc => ?_, ⟨fun c q1 q2 => ?_, fun c q1 q2 => ?_⟩, ⟨e + k, by omega, by omega, fun c _ q2 => ?_, ?_⟩, fun T hT ⟨i, t1, t2, t3, t4⟩ => ?_⟩⟩
        · rw [if_pos (by rw [hfull])]
          obtain ⟨g2, rfl⟩ : ∃ g2, g = g2 + 1 := ⟨g - 1, by omega⟩
          rw [im_X5_next_L9]
          by_cases z : nI (e + k) + (-1) < nI e
          · rw [if_pos z, ev_as (Or.inr rfl)]
          · rw [if_neg z, if_neg (by decide), ev_as (Or.inr rfl)]
        · by_cases z : c < e + k
          · rw [h3 c z, hfP c (by omega)]; simp [z]
          · rw [a1 c (by omega) hc]; simp [z]
        · show (if c < e + k then P c else S c) = P c
          rw [if_pos (by omega)]
        · show (if c < e + k then P c else S c) < n ∧ gone (if c < e + k then P c else S c) = false
          by_cases z : c < e + k
          · rw [if_pos z]; exact hV.1 c q1 q2
          · rw [if_neg z]; exact a2.1 c (by omega) q2
        · show (if c < e + k then P c else S c) < (if c + 1 < e + k then P (c + 1) else S (c + 1))
          by_cases z : c + 1 < e + k
          · rw [if_pos (by omega), if_pos z]; exact hV.2 c q1 q2
          · rw [if_neg z]
            by_cases z2 : c < e + k
            · rw [if_pos z2, show c + 1 = e + k by omega, a3]
              have := hV.2 c q1 q2
              rw [show c + 1 = e + k by omega] at this
              omega
            · rw [if_neg z2]; exact a2.2 c (by omega) q2
        · show P c = (if c < e + k then P c else S c)
          rw [if_pos q2]
        · show P (e + k) < (if e + k < e + k then P (e + k) else S (e + k))
          rw [if_neg (by omega), a3]; exact hb1
        · rcases Nat.lt_or_ge i (e + k) with z | z
          · refine Or.inl ⟨i, t1, t2, fun c q1 q2 => ?_, ?_⟩
            · show (if c < e + k then P c else S c) = T c
              rw [if_pos (by omega)]; exact t3 c q1 q2
            · show (if i < e + k then P i else S i) < T i
              rw [if_pos z]; exact t4
          · have hi : i = e + k := by
              apply Classical.byContradiction
              intro w
              exact hno T hT i (by omega) t2 ⟨t3, t4⟩
            subst hi
            have hle := (hT1 T hT t3 t4).2
            by_cases hall : ∀ c, e + k ≤ c → c < e + v → S c = T c
            · refine Or.inr (fun c q1 q2 => ?_)
              show (if c < e + k then P c else S c) = T c
              by_cases w : c < e + k
              · rw [if_pos w]; exact t3 c q1 w
              · rw [if_neg w]; exact hall c (by omega) q2
            · have hex : ∃ c, e + k ≤ c ∧ c < e + v ∧ S c ≠ T c := by
                apply Classical.byContradiction
                intro w
                apply hall
                intro c q1 q2
                apply Classical.byContradiction
                intro w2
                exact w ⟨c, q1, q2, w2⟩
              obtain ⟨c0, hc0, hmin⟩ := pk_least (fun c => e + k ≤ c ∧ c < e + v ∧ S c ≠ T c) hex
              refine Or.inl ⟨c0, by omega, hc0.2.1, fun c q1 q2 => ?_, ?_⟩
              · show (if c < e + k then P c else S c) = T c
                by_cases w : c < e + k
                · rw [if_pos w]; exact t3 c q1 w
                · rw [if_neg w]
                  apply Classical.byContradiction
                  intro w2
                  exact hmin c q2 ⟨by omega, by omega, w2⟩
              · show (if c0 < e + k then P c0 else S c0) < T c0
                rw [if_neg (by omega)]
                have := hle c0 hc0.1 hc0.2.1
                have := hc0.2.2
                omega
      · obtain ⟨r, f9, e9, hr⟩ := ih g f' (by omega) (by omega) (fun c hc => (h3 c hc).trans (hfP c (by omega))) (fun T hT i q1 q2 ⟨q3, q4⟩ => by
          rcases Nat.lt_or_ge (e + k) i with z | z
          · exact hno T hT i (by omega) q2 ⟨q3, q4⟩
          · have hi : i = e + k := by omega
            subst hi
            exact hfull (hT1 T hT q3 q4).1)
        refine ⟨r, f9, hstep r f9 ?_, hr⟩
        rw [if_neg (fun z => hfull ((nI_eq (by omega) (by omega)).mp z))]
        exact e9
  obtain ⟨r, f', h1, h2⟩ := key v 5000 fp (Nat.le_refl v) (by omega) hP (fun T _ i q1 q2 => by omega)
  refine ⟨r, f', ?_, h2⟩
  rw [im_X5_next, ev_lt, ev_lt, nI_add, Int32.sub_eq_add_neg]
  exact h1
