theorem gf_c_mono {i n : Nat} (p : Nat → Bool) (h : i ≤ n) : gf_c i p ≤ gf_c n p := by
  induction n with
  | zero => rw [show i = 0 by omega]; exact Nat.le_refl _
  | succ n ih =>
    by_cases q : i = n + 1
    · rw [q]; exact Nat.le_refl _
    · exact Nat.le_trans (ih (by omega)) (Nat.le_add_right _ _)
/-- a loop that counts down to -1 -/
theorem lp_dm {σ γ : Type} (L : Nat → Int32 → σ → γ) (K : σ → γ) (inv : Nat → σ → Prop)
    (h0 : ∀ f s, inv 0 s → L (f + 1) (nI 0 + (-1)) s = K s) (h1 : ∀ f i s, inv (i + 1) s → ∃ s', inv i s' ∧ L (f + 1) (nI i) s = L f (nI i + (-1)) s') :
    ∀ (i : Nat) (s : σ) (f : Nat), i < f → inv i s → ∃ s', inv 0 s' ∧ L f (nI i + (-1)) s = K s' := by
  intro i
  induction i with
  | zero =>
    intro s f hf hs
    obtain ⟨g, rfl⟩ : ∃ g, f = g + 1 := ⟨f - 1, by omega⟩
    exact ⟨s, hs, h0 g s hs⟩
  | succ i ih =>
    intro s f hf hs
    obtain ⟨g, rfl⟩ : ∃ g, f = g + 1 := ⟨f - 1, by omega⟩
    obtain ⟨s1, hs1, e1⟩ := h1 g i s hs
    obtain ⟨s2, hs2, e2⟩ := ih s1 g (by omega) hs1
    refine ⟨s2, hs2, ?_⟩
    rw [pk_m1]
    exact e1.trans e2
theorem f_fill (x : Int32) {N : Nat} (f : Nat → Int32) (hb : N < 1000) : ∃ s, (∀ i, i < N → s i = x) ∧ im_J7_fill_53178 x N f = some s := by
  obtain ⟨s, hs, e⟩ := lp_up (fun q k (s : Nat → Int32) => im_J7_fill_53178_L5 N x q k s) (fun s => some s) N (fun k s => ∀ i, i < k → s i = x)
    (fun q s _ => by
      show im_J7_fill_53178_L5 N x (q + 1) (nI N) s = _
      rw [im_J7_fill_53178_L5, if_pos (nI_le (Nat.le_refl N) (by omega))])
    (fun q k s hk hs => ⟨upd s k x, fun i hi => by
      by_cases e : i = k
      · subst e; exact up_s _ _ _
      · rw [up_n _ _ e]; exact hs i (by omega), by
      show im_J7_fill_53178_L5 N x (q + 1) (nI k) s = im_J7_fill_53178_L5 N x q (nI (k + 1)) (upd s k x)
      rw [im_J7_fill_53178_L5, if_neg (nI_ge hk (by omega)), ev_st hk (by omega), ev_lt, nI_1]⟩) N 0 f 5000 (by omega) (by omega) (fun i hi => by omega)
  exact ⟨s, hs, e⟩
/-- the value of a polynomial of N coefficients -/
theorem f_val {N : Nat} {f : Nat → Int32} {c : Nat → Gf} (hf : Rp N f c) (hb : N < 1000) (x : Gf) : im_X1_valueAt (Gi x) N f = some (Gi (gf_e N c x)) := by
  obtain ⟨s, hs, e⟩ := lp_dm (fun q k (s : Int32) => im_X1_valueAt_L7 (Gi x) N f q s k) (fun s => some s) (fun k s => k ≤ N ∧ s = Gi (gf_e (N - k) (fun j => c (k + j)) x))
    (fun q s _ => by
      show im_X1_valueAt_L7 (Gi x) N f (q + 1) s (nI 0 + (-1)) = some s
      rw [im_X1_valueAt_L7, if_pos (by decide)])
    (fun q k s hs => ⟨Gi (gf_e (N - k) (fun j => c (k + j)) x), ⟨by omega, rfl⟩, by
      show im_X1_valueAt_L7 (Gi x) N f (q + 1) s (nI k) = im_X1_valueAt_L7 (Gi x) N f q (Gi (gf_e (N - k) (fun j => c (k + j)) x)) (nI k + (-1))
      rw [im_X1_valueAt_L7, if_neg (nI_pos (by omega)), hs.2, ar_prod, ev_b1, ev_ld (by omega) (by omega), ev_lt, ev_lt, hf k (by omega), Gi_xor]
      congr 2
      rw [show N - k = (N - (k + 1)) + 1 by omega, gf_e, gf_m_comm, BitVec.xor_comm]
      congr 1
      congr 1
      exact gf_e_congr (fun j _ => by rw [show k + 1 + j = k + (j + 1) by omega]) x⟩) N 0 5000 (by omega) ⟨Nat.le_refl N, by rw [Nat.sub_self]; rfl⟩
  rw [im_X1_valueAt, ev_lt, show (nI N : Int32) - 1 = nI N + (-1) by rw [Int32.sub_eq_add_neg]]
  refine e.trans ?_
  have e9 : gf_e N (fun j => c (0 + j)) x = gf_e N c x := gf_e_congr (fun j _ => by rw [Nat.zero_add]) x
  rw [hs.2, Nat.sub_zero, e9]
/-! the places that are lost -/
def Lp (n : Nat) (f : Nat → Int32) (lost : Nat → Bool) : Prop := ∀ i, i < n → f i = if lost i then 1 else 0
abbrev xp (n i : Nat) : Gf := gf_i (Xp n i)
theorem Xp_nz (n i : Nat) : Xp n i ≠ 0#6 := gf_p_nz (by decide) _
theorem Xx (n i : Nat) : gf_m (Xp n i) (xp n i) = 1#6 := gf_m_i _ (Xp_nz n i)
theorem f_cnt {n N : Nat} {f : Nat → Int32} {lost : Nat → Bool} (hf : Lp n f lost) (hN : n ≤ N) (hb : N < 1000) : im_X0_countLost (nI n) N f = some (nI (gf_c n lost)) := by
  have hmax := gf_c_max n lost
  obtain ⟨s, hs, e⟩ := lp_up (fun q k (s : Int32) => im_X0_countLost_L4 (nI n) N f q s k) (fun s => some s) n (fun k s => s = nI (gf_c k lost))
    (fun q s _ => by
      show im_X0_countLost_L4 (nI n) N f (q + 1) s (nI n) = some s
      rw [im_X0_countLost_L4, if_pos (nI_le (Nat.le_refl n) (by omega))])
    (fun q k s hk hs => ⟨nI (gf_c (k + 1) lost), rfl, by
      show im_X0_countLost_L4 (nI n) N f (q + 1) s (nI k) = im_X0_countLost_L4 (nI n) N f q (nI (gf_c (k + 1) lost)) (nI (k + 1))
      rw [im_X0_countLost_L4, if_neg (nI_ge hk (by omega)), ev_j2, ev_ld (by omega) (by omega), hf k hk, hs]
      cases hl : lost k with
      | false =>
        rw [if_pos (by decide)]
        show im_lt (nI (gf_c k lost) + 0) _ = _
        rw [ev_lt, ev_lt, nI_1, Int32.add_zero, gf_c, hl]
        rfl
      | true =>
        rw [if_neg (by decide)]
        show im_lt (nI (gf_c k lost) + 1) _ = _
        rw [ev_lt, ev_lt, nI_1, nI_1, gf_c, hl]
        rfl⟩) n 0 0 5000 (by omega) (by omega) rfl
  rw [hs] at e
  exact e
theorem f_llin {R N NP i : Nat} {f fp : Nat → Int32} {C : Nat → Gf} {X : Gf} (hf : Rp (R + 1) f C) (hi : i < NP) (hp : fp i = Gi X) (hN : R + 1 ≤ N) (hb : N < 1000) (hb2 : NP < 1000) :
    ∃ s, Rp (R + 1) s (fun k => C k ^^^ gf_m X (gf_sh C k)) ∧ ∀ K, im_X0_locateLost_L36 K N NP fp (nI i) 5000 (nI R) f = K s := by
  obtain ⟨s, hs, e⟩ := lp_dn (fun q k (s : Nat → Int32) => fun K => im_X0_locateLost_L36 K N NP fp (nI i) q k s) (fun s => fun K => K s) (fun k s => k ≤ R ∧ (∀ j, j ≤ k → s j = Gi (C j)) ∧ ∀ j, k < j → j ≤ R → s j = Gi (C j ^^^ gf_m X (gf_sh C j)))
    (fun q s _ => by
      funext K
      rw [im_X0_locateLost_L36, if_pos (by decide)])
    (fun q k s hs => ⟨upd s (k + 1) (Gi (C (k + 1) ^^^ gf_m X (C k))), ⟨by omega, fun j hj => by rw [up_n _ _ (by omega)]; exact hs.2.1 j (by omega), fun j h1 h2 => by
      by_cases e : j = k + 1
      · subst e; rw [up_s]; rfl
      · rw [up_n _ _ e]; exact hs.2.2 j (by omega) h2⟩, by
      funext K
      rw [im_X0_locateLost_L36, if_neg (nI_nle (by omega) (by omega)), ev_ld (by omega) (by omega), ev_ld hi (by omega), ev_lt, nI_pred, ev_ld (by omega) (by omega), hp, hs.2.1 (k + 1) (by omega), hs.2.1 k (by omega), ar_prod, ev_b1, ev_lt, ev_st (by omega) (by omega), ev_lt, Gi_xor, pk_m1]⟩) R f 5000 (by omega) ⟨Nat.le_refl R, fun j hj => hf j (by omega), fun j h1 h2 => by omega⟩
  refine ⟨s, fun j hj => ?_, fun K => congrFun e K⟩
  cases j with
  | zero =>
    rw [hs.2.1 0 (Nat.le_refl 0)]
    show Gi (C 0) = Gi (C 0 ^^^ gf_m X 0#6)
    rw [gf_m_0, gf_x0]
  | succ j => exact hs.2.2 (j + 1) (by omega) (by omega)
/-- what the locator of the first i symbols is -/
def ga_I (n R i : Nat) (lost : Nat → Bool) (C : Nat → Gf) : Prop := C 0 = 1#6 ∧ (∀ k, gf_c i lost < k → k ≤ R → C k = 0#6) ∧ ∀ j, j < i → lost j = true → gf_e (R + 1) C (xp n j) = 0#6
theorem ga_step {n R i : Nat} {lost : Nat → Bool} {C : Nat → Gf} (h : ga_I n R i lost C) (hl : lost i = true) (hc : gf_c i lost < R) : ga_I n R (i + 1) lost (fun k => C k ^^^ gf_m (Xp n i) (gf_sh C k)) := by
  obtain ⟨h1, h2, h3⟩ := h
  have hR : C R = 0#6 := h2 R hc (Nat.le_refl R)
  have hev : ∀ y, gf_e (R + 1) (fun k => C k ^^^ gf_m (Xp n i) (gf_sh C k)) y = gf_e (R + 1) C y ^^^ gf_m (Xp n i) (gf_m y (gf_e (R + 1) C y)) := fun y => by
    rw [gf_e_add, gf_e_m, bm_e_sh hR]
  refine ⟨?_, fun k q1 q2 => ?_, fun j hj q => ?_⟩
  · show C 0 ^^^ gf_m _ 0#6 = 1#6
    rw [gf_m_0, gf_x0]; exact h1
  · rw [gf_c, hl] at q1
    simp only [if_true] at q1
    obtain ⟨k', rfl⟩ : ∃ k', k = k' + 1 := ⟨k - 1, by omega⟩
    show C (k' + 1) ^^^ gf_m _ (C k') = 0#6
    rw [h2 (k' + 1) (by omega) q2, h2 k' (by omega) (by omega), gf_m_0]; exact gf_xs _
  · rw [hev]
    by_cases e : j = i
    · subst e
      rw [← gf_m_assoc, Xx, gf_1_m]; exact gf_xs _
    · rw [h3 j (by omega) q, gf_m_0, gf_m_0]; exact gf_xs _
theorem ga_keep {n R i : Nat} {lost : Nat → Bool} {C : Nat → Gf} (h : ga_I n R i lost C) (hl : lost i = false) : ga_I n R (i + 1) lost C := by
  obtain ⟨h1, h2, h3⟩ := h
  refine ⟨h1, fun k q1 q2 => h2 k (by rw [gf_c, hl] at q1; simpa using q1) q2, fun j hj q => ?_⟩
  by_cases e : j = i
  · subst e; rw [hl] at q; cases q
  · exact h3 j (by omega) q
theorem f_lost {n N R NL NP : Nat} {f fl fp : Nat → Int32} {lost : Nat → Bool} (hf : Lp n f lost) (hN : n ≤ N) (hb : N < 1000) (hp : Rp n fp (Xp n)) (hNP : n ≤ NP) (hb2 : NP < 1000) (hNL : R + 1 ≤ NL) (hb3 : NL < 1000) (he : gf_c n lost ≤ R) :
    ∃ s C, im_X0_locateLost (nI n) (nI R) N NL NP f fl fp = some s ∧ Rp (R + 1) s C ∧ ga_I n R n lost C := by
  obtain ⟨f1, hf1, e1⟩ := f_fill 0 fl hb3
  obtain ⟨s, hs, e⟩ := lp_up (fun q k (s : Nat → Int32) => im_X0_locateLost_L17 (nI n) N f NL NP fp (nI R) q k s) (fun s => some s) n (fun i s => ∃ C, Rp (R + 1) s C ∧ ga_I n R i lost C)
    (fun q s _ => by
      show im_X0_locateLost_L17 (nI n) N f NL NP fp (nI R) (q + 1) (nI n) s = some s
      rw [im_X0_locateLost_L17, if_pos (nI_le (Nat.le_refl n) (by omega))])
    (fun q i s hi hs => by
      obtain ⟨C, hC, hg⟩ := hs
      cases hl : lost i with
      | false =>
        refine ⟨s, ⟨C, hC, ga_keep hg hl⟩, ?_⟩
        show im_X0_locateLost_L17 (nI n) N f NL NP fp (nI R) (q + 1) (nI i) s = im_X0_locateLost_L17 (nI n) N f NL NP fp (nI R) q (nI (i + 1)) s
        rw [im_X0_locateLost_L17, if_neg (nI_ge hi (by omega)), ev_j1, ev_ld (by omega) (by omega), hf i hi, hl, if_pos (by decide)]
        show im_lt (nI i + 1) _ = _
        rw [ev_lt, nI_1]
      | true =>
        have hlt : gf_c i lost < R := by
          have h1 : gf_c (i + 1) lost ≤ gf_c n lost := gf_c_mono lost hi
          rw [gf_c, hl] at h1
          simp only [if_true] at h1
          omega
        obtain ⟨s1, hs1, es1⟩ := f_llin (X := Xp n i) hC (by omega : i < NP) (hp i hi) hNL hb3 hb2
        refine ⟨s1, ⟨_, hs1, ga_step hg hl hlt⟩, ?_⟩
        show im_X0_locateLost_L17 (nI n) N f NL NP fp (nI R) (q + 1) (nI i) s = im_X0_locateLost_L17 (nI n) N f NL NP fp (nI R) q (nI (i + 1)) s1
        rw [im_X0_locateLost_L17, if_neg (nI_ge hi (by omega)), ev_j1, ev_ld (by omega) (by omega), hf i hi, hl, if_neg (by decide), es1, ev_lt, nI_1]) n 0 (upd f1 0 1) 5000 (by omega) (by omega) ⟨fun k => if k = 0 then 1#6 else 0#6, fun k hk => by
          by_cases q : k = 0
          · subst q; exact up_s _ _ _
          · rw [up_n _ _ q, hf1 k (by omega)]; simp [q]; rfl, rfl, fun k q1 q2 => by
          have : k ≠ 0 := by omega
          simp [this], fun j hj => by omega⟩
  obtain ⟨C, hC, hg⟩ := hs
  refine ⟨s, C, ?_, hC, hg⟩
  rw [im_X0_locateLost, e1, ev_b1]
  show im_st NL f1 (nI 0) 1 _ = _
  rw [ev_st (by omega) (by omega)]
  exact e
