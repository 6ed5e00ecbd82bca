theorem asc_lt {lo hi : Nat} {T : Nat → Nat} (h : ∀ c, lo ≤ c → c + 1 < hi → T c < T (c + 1)) {a b : Nat} (ha : lo ≤ a) (hab : a < b) (hb : b < hi) : T a < T b := by
  have : ∀ d, a + 1 + d < hi → T a < T (a + 1 + d) := by
    intro d
    induction d with
    | zero => intro q; exact h a ha q
    | succ d ih =>
      intro q
      have h1 := ih (by omega)
      have h2 := h (a + 1 + d) (by omega) (by omega)
      rw [← Nat.add_assoc]
      omega
  have := this (b - (a + 1)) (by omega)
  rwa [show a + 1 + (b - (a + 1)) = b by omega] at this
def Pl (n e v : Nat) (gone : Nat → Bool) (P : Nat → Nat) : Prop := Ga n e gone P ∧ Vs n gone e (e + v) P
theorem pl_inj {n e v : Nat} {gone : Nat → Bool} {P : Nat → Nat} (h : Pl n e v gone P) : ∀ a b, a < e + v → b < e + v → P a = P b → a = b := by
  have key : ∀ a b, a < b → b < e + v → P a ≠ P b := by
    intro a b hab hb heq
    by_cases z : b < e
    · have := asc_lt (lo := 0) (hi := e) (T := P) (fun c _ q => h.1.2.1 c q) (Nat.zero_le a) hab z
      omega
    · by_cases z2 : e ≤ a
      · have := asc_lt (lo := e) (hi := e + v) (T := P) h.2.2 z2 hab hb
        omega
      · have h1 := (h.1.1 a (by omega)).2
        have h2 := (h.2.1 b (by omega) hb).2
        rw [heq, h2] at h1
        cases h1
  intro a b ha hb heq
  rcases Nat.lt_trichotomy a b with z | z | z
  · exact absurd heq (key a b z hb)
  · exact z
  · exact absurd heq.symm (key b a z ha)
theorem pl_lt {n e v : Nat} {gone : Nat → Bool} {P : Nat → Nat} (h : Pl n e v gone P) {c : Nat} (hc : c < e + v) : P c < n := by
  by_cases z : c < e
  · exact (h.1.1 c z).1
  · exact (h.2.1 c (by omega) hc).1
theorem sy_congr {n R m : Nat} {P T : Nat → Nat} {w d : Nat → Gf} (h : ∀ c, c < m → P c = T c) (hs : Sy n R m P w d) : Sy n R m T w d := by
  intro j hj
  rw [← hs j hj]
  exact gf_s_congr (fun c hc => by rw [h c hc])
/-- the search of the places -/
theorem g_search {n R e v : Nat} {fg fw : Nat → Int32} {gone : Nat → Bool} {w : Nat → Gf} (hf : Lp n fg gone) (hn : n ≤ 22) (hR : R ≤ 8) (hm : e + v ≤ R) (hv4 : v ≤ 4) (hw : Rp n fw w) :
    ∀ (d q : Nat) (r : Int32) (fl fp : Nat → Int32) (P : Nat → Nat), cdz e P v + d = 234256 → d < q → (∀ c, c < e + v → fp c = nI (P c)) → Pl n e v gone P →
      ((r = 1 ∧ ∃ D, (∀ c, c < e + v → fl (9 * c + (e + v)) = Gi (D c)) ∧ Sy n R (e + v) P w D) ∨ (r = 0 ∧ ∀ d, ¬ Sy n R (e + v) P w d)) →
      (∀ T, (∀ c, c < e → T c = P c) → Vs n gone e (e + v) T → Lx e (e + v) T P → ∀ d, ¬ Sy n R (e + v) T w d) →
      ∃ r' fl' fp', (∀ K, im_X5_mend_L59 (nI v) K (nI e) (nI n) 22 8 fg (nI R) 72 22 fw q r fl fp = K r' fl' fp') ∧
        ((r' = 1 ∧ ∃ P' D, (∀ c, c < e + v → fp' c = nI (P' c)) ∧ Pl n e v gone P' ∧ (∀ c, c < e + v → fl' (9 * c + (e + v)) = Gi (D c)) ∧ Sy n R (e + v) P' w D) ∨
         (r' = 0 ∧ ∀ T, (∀ c, c < e → T c = P c) → Vs n gone e (e + v) T → ∀ d, ¬ Sy n R (e + v) T w d)) := by
  intro d
  induction d using Nat.strongRecOn with
  | ind d ih =>
    intro q r fl fp P hd hq hP hPl hr hall
    obtain ⟨g, rfl⟩ : ∃ g, q = g + 1 := ⟨q - 1, by omega⟩
    rcases hr with ⟨hr, D, hD, hS⟩ | ⟨hr, hno⟩
    · refine ⟨r, fl, fp, fun K => ?_, Or.inl ⟨hr, P, D, hP, hPl, hD, hS⟩⟩
      rw [im_X5_mend_L59, if_neg (by rw [hr]; decide)]
    · by_cases hv : v = 0
      · refine ⟨r, fl, fp, fun K => ?_, Or.inr ⟨hr, fun T hT _ d hS => hno d (sy_congr (fun c hc => hT c (by omega)) hS)⟩⟩
        rw [im_X5_mend_L59, if_pos hr, if_pos (by rw [hv]; decide)]
      · obtain ⟨r2, fp2, e2, h2⟩ := g_next hf hn (by omega) (by omega) hP hPl.2
        rcases h2 with ⟨hr2, P2, q1, q2, q3, q4, q5⟩ | ⟨hr2, q1⟩
        · have hPl2 : Pl n e v gone P2 := by
            refine ⟨⟨fun c hc => by rw [q2 c hc]; exact hPl.1.1 c hc, fun c hc => by rw [q2 c (by omega), q2 (c + 1) hc]; exact hPl.1.2.1 c hc, fun i hi hg => ?_⟩, q3⟩
            obtain ⟨c, c1, c2⟩ := hPl.1.2.2 i hi hg
            exact ⟨c, c1, by rw [q2 c c1]; exact c2⟩
          obtain ⟨r3, fl3, e3, h3⟩ := g_solve (fl := fl) (fp := fp2) (fw := fw) (pl := P2) hR hm (fun c hc => ⟨q1 c hc, pl_lt hPl2 hc⟩) (pl_inj hPl2) hn hw
          have hlt := cd_lt q4 (fun c c1 c2 => by have := (hPl.2.1 c c1 c2).1; omega)
          have hmx := cd_max (lo := e) (k := v) (P := P2) hv4 (fun c c1 c2 => by have := (q3.1 c c1 c2).1; omega)
          rw [show e + v - e = v by omega] at hlt
          obtain ⟨r', fl', fp', e4, h4⟩ := ih (234256 - cdz e P2 v) (by omega) g r3 fl3 fp2 P2 (by omega) (by omega) q1 hPl2 h3 (fun T hT hV hL => by
            have hTP : ∀ c, c < e → T c = P c := fun c hc => (hT c hc).trans (q2 c hc)
            rcases lx_tri e (e + v) T P with z | z | z
            · exact hall T hTP hV z
            · intro d hS
              refine hno d (sy_congr (fun c hc => ?_) hS)
              by_cases y : c < e
              · exact hTP c y
              · exact z c (by omega) hc
            · exact absurd (q5 T hV z) (fun hLe => lx_irr hL hLe))
          refine ⟨r', fl', fp', fun K => ?_, ?_⟩
          · rw [im_X5_mend_L59, if_pos hr, if_neg (nI_nle (by omega) (by omega)), e2, ev_b2, if_neg (by rw [hr2]; decide), ev_lt, nI_add, e3, ev_b2]
            exact e4 K
          · rcases h4 with h4 | ⟨h4, h5⟩
            · exact Or.inl h4
            · exact Or.inr ⟨h4, fun T hT hV => h5 T (fun c hc => (hT c hc).trans (q2 c hc).symm) hV⟩
        · refine ⟨r, fl, fp2, fun K => ?_, Or.inr ⟨hr, fun T hT hV => ?_⟩⟩
          · rw [im_X5_mend_L59, if_pos hr, if_neg (nI_nle (by omega) (by omega)), e2, ev_b2, if_pos hr2]
          · rcases lx_tri e (e + v) T P with z | z | z
            · exact hall T hT hV z
            · intro d hS
              refine hno d (sy_congr (fun c hc => ?_) hS)
              by_cases y : c < e
              · exact hT c y
              · exact z c (by omega) hc
            · exact absurd z (q1 T hV)
/-! what lies at the places, as a word -/
def sp (m : Nat) (P : Nat → Nat) (D : Nat → Gf) (i : Nat) : Gf := gf_s m (fun c => if P c = i then D c else 0#6)
theorem sp_at {m : Nat} {P : Nat → Nat} {D : Nat → Gf} (hinj : ∀ a b, a < m → b < m → P a = P b → a = b) {c : Nat} (hc : c < m) : sp m P D (P c) = D c := by
  rw [sp, gf_s_one hc (fun i hi hne => if_neg (fun q => hne (hinj i c hi hc q)))]
  exact if_pos rfl
theorem sp_off {m : Nat} {P : Nat → Nat} {D : Nat → Gf} {i : Nat} (h : ∀ c, c < m → P c ≠ i) : sp m P D i = 0#6 := gf_s_zero (fun c hc => if_neg (h c hc))
theorem sp_sum {n m : Nat} {P : Nat → Nat} {D X : Nat → Gf} (hP : ∀ c, c < m → P c < n) (j : Nat) : bm_S n X (sp m P D) j = gf_s m (fun c => gf_m (gf_p (X (P c)) (j + 1)) (D c)) := by
  have h1 : bm_S n X (sp m P D) j = gf_s n (fun i => gf_s m (fun c => gf_m (gf_p (X i) (j + 1)) (if P c = i then D c else 0#6))) := by
    refine gf_s_congr (fun i _ => ?_)
    rw [gf_m_comm, sp, gf_s_m]
  rw [h1, gf_s_swap]
  refine gf_s_congr (fun c hc => ?_)
  rw [gf_s_one (hP c hc) (fun i _ hne => by rw [if_neg (fun q => hne q.symm), gf_m_0])]
  rw [if_pos rfl]
def hit (P : Nat → Nat) (q : Nat → Bool) : Nat → Nat → Bool
  | 0, _ => false
  | m + 1, i => hit P q m i || (q m && P m == i)
theorem hit_iff (P : Nat → Nat) (q : Nat → Bool) (i : Nat) : ∀ m, hit P q m i = true ↔ ∃ c, c < m ∧ q c = true ∧ P c = i := by
  intro m
  induction m with
  | zero => exact ⟨fun h => (by cases h), fun ⟨c, h, _⟩ => by omega⟩
  | succ m ih =>
    rw [hit, Bool.or_eq_true, ih, Bool.and_eq_true, beq_iff_eq]
    constructor
    · rintro (⟨c, h1, h2⟩ | h)
      · exact ⟨c, by omega, h2⟩
      · exact ⟨m, by omega, h⟩
    · rintro ⟨c, h1, h2⟩
      by_cases z : c = m
      · subst z; exact Or.inr h2
      · exact Or.inl ⟨c, by omega, h2⟩
theorem gf_c_0 (n : Nat) : gf_c n (fun _ => false) = 0 := by
  induction n with
  | zero => rfl
  | succ n ih => rw [gf_c, ih]; rfl
theorem gf_c_is {n i0 : Nat} (h : i0 < n) : gf_c n (fun i => i0 == i) = 1 := by
  have h1 : gf_c n (fun i => i0 == i) = gf_c n (fun i => i == i0) := gf_c_congr (fun i _ => by rw [Bool.eq_iff_iff, beq_iff_eq, beq_iff_eq]; exact eq_comm)
  have h2 := gf_c_eq1 n i0
  have h3 := gf_c_lt (n := n) (i0 := i0) (p := fun _ => false) (q := fun i => i0 == i) (fun i _ q => by cases q) h rfl (by simp)
  rw [gf_c_0] at h3
  omega
theorem hit_c {n : Nat} {P : Nat → Nat} {q : Nat → Bool} : ∀ m, (∀ c, c < m → P c < n) → (∀ a b, a < m → b < m → P a = P b → a = b) → gf_c n (hit P q m) = gf_c m q := by
  intro m
  induction m with
  | zero => intro _ _; exact gf_c_0 n
  | succ m ih =>
    intro hP hinj
    have h1 := ih (fun c hc => hP c (by omega)) (fun a b ha hb => hinj a b (by omega) (by omega))
    rw [gf_c, ← h1]
    have h2 : gf_c n (hit P q (m + 1)) = gf_c n (hit P q m) + gf_c n (fun i => q m && P m == i) := by
      refine gf_c_dis (fun i _ => ?_)
      rw [Bool.and_eq_false_iff]
      cases hh : hit P q m i with
      | false => exact Or.inl rfl
      | true =>
        obtain ⟨c, c1, c2, c3⟩ := (hit_iff P q i m).1 hh
        refine Or.inr ?_
        rw [Bool.and_eq_false_iff]
        refine Or.inr ?_
        rw [beq_eq_false_iff_ne]
        intro z
        have := hinj c m (by omega) (by omega) (by omega)
        omega
    rw [h2]
    cases hq : q m with
    | false => rw [show (fun i => false && P m == i) = fun _ => false from rfl, gf_c_0]; rfl
    | true => rw [show (fun i => true && P m == i) = fun i => P m == i from rfl, gf_c_is (hP m (by omega))]; rfl
/-- between two predicates there is one of each number between theirs -/
theorem c_mid : ∀ (n v : Nat) (p q : Nat → Bool), (∀ i, i < n → p i = true → q i = true) → gf_c n p ≤ v → v ≤ gf_c n q → ∃ r : Nat → Bool, (∀ i, i < n → p i = true → r i = true) ∧ (∀ i, i < n → r i = true → q i = true) ∧ gf_c n r = v := by
  intro n
  induction n with
  | zero =>
    intro v p q _ h1 h2
    exact ⟨p, fun i hi => by omega, fun i hi => by omega, by simp only [gf_c] at h1 h2 ⊢; omega⟩
  | succ n ih =>
    intro v p q hpq h1 h2
    have hle := gf_c_le (n := n) (p := p) (q := q) (fun i hi => hpq i (by omega))
    rw [gf_c] at h1 h2
    have step : ∀ (b : Bool) (v' : Nat), (p n = true → b = true) → (b = true → q n = true) → gf_c n p ≤ v' → v' ≤ gf_c n q → v = v' + (if b then 1 else 0) → ∃ r : Nat → Bool, (∀ i, i < n + 1 → p i = true → r i = true) ∧ (∀ i, i < n + 1 → r i = true → q i = true) ∧ gf_c (n + 1) r = v := by
      intro b v' hb1 hb2 g1 g2 hv
      obtain ⟨r, r1, r2, r3⟩ := ih v' p q (fun i hi => hpq i (by omega)) g1 g2
      refine ⟨fun i => if i = n then b else r i, fun i hi h => ?_, fun i hi h => ?_, ?_⟩
      · by_cases z : i = n
        · simp only [z, if_true]; rw [z] at h; exact hb1 h
        · simp only [z, if_false]; exact r1 i (by omega) h
      · by_cases z : i = n
        · simp only [z, if_true] at h ⊢; exact hb2 h
        · simp only [z, if_false] at h; exact r2 i (by omega) h
      · rw [gf_c, hv, gf_c_congr (q := r) (fun i hi => if_neg (by omega)), r3, if_pos rfl]
    have hp1 := hpq n (by omega)
    cases hp : p n with
    | true =>
      rw [hp] at h1 hp1
      have hq := hp1 rfl
      rw [hq] at h2
      simp only [if_true] at h1 h2
      exact step true (v - 1) (fun _ => rfl) (fun _ => hq) (by omega) (by omega) (by simp only [if_true]; omega)
    | false =>
      rw [hp] at h1
      simp only [Bool.false_eq_true, if_false] at h1
      by_cases z : v ≤ gf_c n q
      · exact step false v (fun q => by rw [hp] at q; cases q) (fun q => by cases q) (by omega) z (by simp)
      · cases hq : q n with
        | false => rw [hq] at h2; simp only [Bool.false_eq_true, if_false] at h2; omega
        | true =>
          rw [hq] at h2
          simp only [if_true] at h2
          exact step true (v - 1) (fun _ => rfl) (fun _ => hq) (by omega) (by omega) (by simp only [if_true]; omega)
/-- a predicate's row -/
theorem c_enum : ∀ (n : Nat) (r : Nat → Bool), ∃ T : Nat → Nat, (∀ c, c < gf_c n r → T c < n ∧ r (T c) = true) ∧ (∀ c, c + 1 < gf_c n r → T c < T (c + 1)) ∧ ∀ i, i < n → r i = true → ∃ c, c < gf_c n r ∧ T c = i := by
  intro n r
  induction n with
  | zero => exact ⟨fun _ => 0, fun c h => by simp [gf_c] at h, fun c h => by simp [gf_c] at h, fun i h => by omega⟩
  | succ n ih =>
    obtain ⟨T, t1, t2, t3⟩ := ih
    cases hr : r n with
    | false =>
      have hc : gf_c (n + 1) r = gf_c n r := by rw [gf_c, hr]; rfl
      rw [hc]
      refine ⟨T, fun c h => ⟨by have := (t1 c h).1; omega, (t1 c h).2⟩, t2, fun i hi h => ?_⟩
      by_cases z : i = n
      · rw [z, hr] at h; cases h
      · exact t3 i (by omega) h
    | true =>
      have hc : gf_c (n + 1) r = gf_c n r + 1 := by rw [gf_c, hr]; rfl
      rw [hc]
      refine ⟨fun c => if c < gf_c n r then T c else n, fun c h => ?_, fun c h => ?_, fun i hi h => ?_⟩
      · by_cases z : c < gf_c n r
        · simp only [z, if_true]; exact ⟨by have := (t1 c z).1; omega, (t1 c z).2⟩
        · simp only [z, if_false]; exact ⟨by omega, hr⟩
      · by_cases z : c + 1 < gf_c n r
        · simp only [z, show c < gf_c n r by omega, if_true]; exact t2 c z
        · simp only [z, show c < gf_c n r by omega, if_true, if_false]; exact (t1 c (by omega)).1
      · by_cases z : i = n
        · exact ⟨gf_c n r, by omega, by simp [z]⟩
        · obtain ⟨c, c1, c2⟩ := t3 i (by omega) h
          exact ⟨c, by omega, by simp only [c1, if_true]; exact c2⟩
