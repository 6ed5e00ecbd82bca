def rS (a : Nat → Int32) : Nat → Nat → Nat → Nat
  | 0, _, _ => 0
  | d + 1, k, run => if k = 11 ∨ a k ≠ a (k + 1) then (if run + 1 < 4 then 0 else run + 1 - 2) + rS a d (k + 1) 0 else rS a d (k + 1) (run + 1)
theorem rS_b (a : Nat → Int32) : ∀ d k run, rS a d k run ≤ d + run := by
  intro d
  induction d with
  | zero => intro k run; exact Nat.zero_le _
  | succ d ih =>
    intro k run
    rw [rS]
    have h1 := ih (k + 1) 0
    have h2 := ih (k + 1) (run + 1)
    split
    · split <;> omega
    · omega
def Sq (x st : Nat) (g : Nat → Int32) : Nat → Int32 := fun k => g (x + k * st)
/-- the class's runs -/
theorem f_runs {x st : Nat} {f g : Nat → Int32} (hx : x + 11 * st < 144) (hfg : ∀ i, i < 144 → f i = g i) :
    ∀ (d k run sum q : Nat), k + d = 12 → d < q → run ≤ k → im_X3_runPenalty_L8 (nI st) (nI x) 144 f q (nI sum) (nI run) (nI k) = some (nI (sum + rS (Sq x st g) d k run)) := by
  intro d
  induction d with
  | zero =>
    intro k run sum q hk hq hr
    obtain ⟨q, rfl⟩ : ∃ g, q = g + 1 := ⟨q - 1, by omega⟩
    rw [im_X3_runPenalty_L8, if_pos (show (12 : Int32) ≤ nI k from nI_le (a := 12) (by omega) (by omega))]
    rfl
  | succ d ih =>
    intro k run sum q hk hq hr
    obtain ⟨q, rfl⟩ : ∃ g, q = g + 1 := ⟨q - 1, by omega⟩
    have hks : k * st ≤ 11 * st := Nat.mul_le_mul_right _ (by omega)
    rw [im_X3_runPenalty_L8, if_neg (show ¬ (12 : Int32) ≤ nI k from nI_ge (b := 12) (by omega) (by omega)), ev_j2, ev_j1]
    simp only [ev_lt, ev_j2]
    rw [pk_mul, nI_add, nI_add, nI_1, rS]
    have hend : ∀ X, (if nI (run + 1) < (4 : Int32) then im_X3_runPenalty_L8 (nI st) (nI x) 144 f q (nI sum + 0) 0 (nI k + 1) else im_X3_runPenalty_L8 (nI st) (nI x) 144 f q (nI sum + (nI (run + 1) - 2)) 0 (nI k + 1)) = X → X = some (nI (sum + ((if run + 1 < 4 then 0 else run + 1 - 2) + rS (Sq x st g) d (k + 1) 0))) := by
      intro X hX
      rw [← hX]
      by_cases z : run + 1 < 4
      · rw [if_pos (show nI (run + 1) < (4 : Int32) from nI_lt (b := 4) z (by omega)), if_pos z, show nI sum + 0 = nI sum from nI_add sum 0, nI_1, show (0 : Int32) = nI 0 from rfl, ih (k + 1) 0 sum q (by omega) (by omega) (by omega)]
        rw [Nat.zero_add]
      · rw [if_neg (show ¬ nI (run + 1) < (4 : Int32) from nI_nlt (b := 4) (by omega) (by omega)), if_neg z, show (2 : Int32) = nI 2 from rfl, pk_sub (by omega), nI_add, nI_1, show (0 : Int32) = nI 0 from rfl, ih (k + 1) 0 _ q (by omega) (by omega) (by omega)]
        rw [Nat.add_assoc]
    by_cases z : k = 11
    · rw [if_pos (show nI k = (11 : Int32) by rw [z]; rfl), if_pos (Or.inl z)]
      exact hend _ (if_neg (by decide)).symm
    · have hks1 : (k + 1) * st ≤ 11 * st := Nat.mul_le_mul_right _ (by omega)
      rw [Nat.add_mul, Nat.one_mul] at hks1
      rw [if_neg (show ¬ nI k = (11 : Int32) from fun y => z ((nI_eq (b := 11) (by omega) (by omega)).1 y)), ev_ld (by omega) (by omega), ev_ld (by omega) (by omega), hfg _ (by omega), hfg _ (by omega)]
      have e1 : g (x + k * st) = Sq x st g k := rfl
      have e2 : g (x + k * st + st) = Sq x st g (k + 1) := by
        show _ = g (x + (k + 1) * st)
        rw [Nat.add_mul, Nat.one_mul, Nat.add_assoc]
      rw [e1, e2]
      by_cases y : Sq x st g k = Sq x st g (k + 1)
      · rw [if_pos y, if_pos trivial, if_neg (fun h => h.elim z (fun h => h y)), nI_1]
        exact ih (k + 1) (run + 1) sum q (by omega) (by omega) (by omega)
      · rw [if_neg y, if_pos (Or.inr y)]
        exact hend _ (if_neg (by decide)).symm
/-- the reference's runs -/
theorem rS_run (a : Nat → Int32) {at_ to : Nat} (h12 : to ≤ 12) (h : ∀ j, at_ ≤ j → j < to → a j = a at_) (hto : to < 12 → a to ≠ a at_) :
    ∀ (e r : Nat), at_ + r + 1 + e = to → rS a (12 - (at_ + r)) (at_ + r) r = (if to - at_ < 4 then 0 else to - at_ - 2) + rS a (12 - to) to 0 := by
  intro e
  induction e with
  | zero =>
    intro r hr
    rw [show 12 - (at_ + r) = (12 - to) + 1 by omega, rS, if_pos]
    · rw [show at_ + r + 1 = to by omega, show r + 1 = to - at_ by omega]
    · by_cases z : to < 12
      · refine Or.inr ?_
        rw [h (at_ + r) (by omega) (by omega), show at_ + r + 1 = to by omega]
        exact fun q => hto z q.symm
      · exact Or.inl (by omega)
  | succ e ih =>
    intro r hr
    rw [show 12 - (at_ + r) = (12 - (at_ + (r + 1))) + 1 by omega, rS, if_neg]
    · rw [Nat.add_assoc at_ r 1]
      exact ih (r + 1) (by omega)
    · rintro (z | z)
      · omega
      · exact z (by rw [h (at_ + r) (by omega) (by omega), h (at_ + r + 1) (by omega) (by omega)])
theorem g_runs {x st : Nat} {f g : Nat → Int32} (hx : x + 11 * st < 144) (hfg : ∀ i, i < 144 → f i = g i) :
    ∀ (d at_ sum q : Nat), at_ + d = 12 → d < q → im_X5_runs_L5 (nI st) (nI x) 144 f q (nI sum) (nI at_) = some (nI (sum + rS (Sq x st g) d at_ 0)) := by
  intro d
  induction d using Nat.strongRecOn with
  | ind d ih =>
    intro at_ sum q hd hq
    obtain ⟨q, rfl⟩ : ∃ g, q = g + 1 := ⟨q - 1, by omega⟩
    by_cases z : d = 0
    · subst z
      rw [im_X5_runs_L5, if_pos (show (12 : Int32) ≤ nI at_ from nI_le (a := 12) (by omega) (by omega))]
      rfl
    · have key : ∀ (e to q : Nat), to + e = 12 → e < q → at_ ≤ to → (∀ j, at_ ≤ j → j < to → Sq x st g j = Sq x st g at_) → ∃ to', to ≤ to' ∧ to' ≤ 12 ∧ (∀ j, at_ ≤ j → j < to' → Sq x st g j = Sq x st g at_) ∧ (to' < 12 → Sq x st g to' ≠ Sq x st g at_) ∧ ∀ K, im_X5_runs_L16 K (nI st) (nI x) 144 f (nI at_) q (nI to) = K (nI to') := by
        intro e
        induction e with
        | zero =>
          intro to q he hq hat h
          obtain ⟨q, rfl⟩ : ∃ g, q = g + 1 := ⟨q - 1, by omega⟩
          refine ⟨to, Nat.le_refl _, by omega, h, fun y => by omega, fun K => ?_⟩
          rw [im_X5_runs_L16, if_pos (show (12 : Int32) ≤ nI to from nI_le (a := 12) (by omega) (by omega))]
        | succ e ih2 =>
          intro to q he hq hat h
          obtain ⟨q, rfl⟩ : ∃ g, q = g + 1 := ⟨q - 1, by omega⟩
          have h1 : to * st ≤ 11 * st := Nat.mul_le_mul_right _ (by omega)
          have h2 : at_ * st ≤ 11 * st := Nat.mul_le_mul_right _ (by omega)
          by_cases y : Sq x st g to = Sq x st g at_
          · obtain ⟨to', t1, t2, t3, t4, t5⟩ := ih2 (to + 1) q (by omega) (by omega) (by omega) (fun j j1 j2 => by
              by_cases yy : j = to
              · rw [yy]; exact y
              · exact h j j1 (by omega))
            refine ⟨to', by omega, t2, t3, t4, fun K => ?_⟩
            rw [im_X5_runs_L16, if_neg (show ¬ (12 : Int32) ≤ nI to from nI_ge (b := 12) (by omega) (by omega))]
            simp only [ev_lt]
            rw [pk_mul, pk_mul, nI_add, nI_add, ev_ld (by omega) (by omega), ev_ld (by omega) (by omega), hfg _ (by omega), hfg _ (by omega), if_pos (show g (x + to * st) = g (x + at_ * st) from y), nI_1]
            exact t5 K
          · refine ⟨to, Nat.le_refl _, by omega, h, fun _ => y, fun K => ?_⟩
            rw [im_X5_runs_L16, if_neg (show ¬ (12 : Int32) ≤ nI to from nI_ge (b := 12) (by omega) (by omega))]
            simp only [ev_lt]
            rw [pk_mul, pk_mul, nI_add, nI_add, ev_ld (by omega) (by omega), ev_ld (by omega) (by omega), hfg _ (by omega), hfg _ (by omega), if_neg (show ¬ g (x + to * st) = g (x + at_ * st) from y)]
      obtain ⟨to, t1, t2, t3, t4, t5⟩ := key d at_ 5000 hd (by omega) (Nat.le_refl _) (fun j j1 j2 => by omega)
      have hlt : at_ < to := by
        apply Classical.byContradiction
        intro y
        have : to = at_ := by omega
        exact t4 (by omega) (by rw [this])
      have hrun := rS_run (Sq x st g) t2 t3 t4 (to - at_ - 1) 0 (by omega)
      rw [Nat.add_zero, show 12 - at_ = d by omega] at hrun
      rw [im_X5_runs_L5, if_neg (show ¬ (12 : Int32) ≤ nI at_ from nI_ge (b := 12) (by omega) (by omega)), ev_j1, t5, ev_j1, ev_lt, pk_sub (by omega), hrun]
      by_cases y : to - at_ < 4
      · rw [if_pos (show nI (to - at_) ≤ (3 : Int32) from nI_le (b := 3) (by omega) (by omega)), if_pos y, Nat.zero_add]
        exact ih (12 - to) (by omega) to sum q (by omega) (by omega)
      · rw [if_neg (show ¬ nI (to - at_) ≤ (3 : Int32) from nI_ge (a := 3) (by omega) (by omega)), if_neg y]
        simp only [ev_lt]
        rw [nI_add, pk_sub (by omega), show (2 : Int32) = nI 2 from rfl, pk_sub (by omega)]
        refine (ih (12 - to) (by omega) to _ q (by omega) (by omega)).trans ?_
        congr 2
        omega
def smn (f : Nat → Nat) : Nat → Nat
  | 0 => 0
  | n + 1 => smn f n + f n
theorem smn_s (f : Nat → Nat) (n : Nat) : smn f (n + 1) = smn f n + f n := rfl
theorem smn_b {f : Nat → Nat} {c : Nat} : ∀ n, (∀ i, i < n → f i ≤ c) → smn f n ≤ n * c := by
  intro n
  induction n with
  | zero => intro _; exact Nat.zero_le _
  | succ n ih =>
    intro h
    have h1 := ih (fun i hi => h i (by omega))
    have h2 := h n (by omega)
    rw [smn, Nat.succ_mul]
    omega
def bl (g : Nat → Int32) (i : Nat) : Bool := decide (i % 12 < 11) && (decide (i < 132) && (decide (g i = g (i + 1)) && (decide (g i = g (i + 12)) && decide (g i = g (i + 13)))))
def rPn (g : Nat → Int32) (k : Nat) : Nat := rS (Sq (12 * k) 1 g) 12 0 0 + rS (Sq k 12 g) 12 0 0
def aB (d : Nat) : Nat := if d ≤ 72 then 72 - d else d - 72
def pen (g : Nat → Int32) (b : Nat → Nat) : Nat := smn (rPn g) 12 + smn (fun i => if bl g i then 3 else 0) 144 + aB (smn b 144)
theorem pen_b {g : Nat → Int32} {b : Nat → Nat} (hb : ∀ i, i < 144 → b i ≤ 1) : pen g b < 100000 := by
  have h1 := smn_b (f := rPn g) (c := 24) 12 (fun i _ => by
    have h1 := rS_b (Sq (12 * i) 1 g) 12 0 0
    have h2 := rS_b (Sq i 12 g) 12 0 0
    rw [rPn]; omega)
  have h2 := smn_b (f := fun i => if bl g i then 3 else 0) (c := 3) 144 (fun i _ => by split <;> omega)
  have h3 := smn_b (f := b) (c := 1) 144 hb
  rw [pen, aB]
  split <;> omega
theorem ab_f : ∀ d, d < 145 → (if 0 ≤ (144 : Int32) - 2 * nI d then (144 : Int32) - 2 * nI d else 0 - ((144 : Int32) - 2 * nI d)) / 2 = nI (aB d) := by decide +kernel
theorem ab_g : ∀ d, d < 145 → (0 ≤ (144 : Int32) - 2 * nI d → ((144 : Int32) - 2 * nI d) / 2 = nI (aB d)) ∧ (¬ 0 ≤ (144 : Int32) - 2 * nI d → (-((144 : Int32) - 2 * nI d)) / 2 = nI (aB d)) := by decide +kernel
theorem f_block {f g : Nat → Int32} {i : Nat} (hfg : ∀ i, i < 144 → f i = g i) (hi : i < 144) : im_X3_startsBlock (nI i) 144 f = some (if bl g i then 1 else 0) := by
  rw [im_X3_startsBlock]
  simp only [ev_lt, ev_j0]
  rw [show (12 : Int32) = nI 12 from rfl, show (1 : Int32) = nI 1 from rfl, show (11 : Int32) = nI 11 from rfl, pk_rem (by omega) (by omega) (by omega), pk_div (by omega) (by omega) (by omega), nI_add, nI_add, nI_add]
  by_cases z : i % 12 = 11
  · rw [if_pos (by rw [z]), bl, decide_eq_false (by omega)]; rfl
  · rw [if_neg (fun y => z ((nI_eq (by omega) (by omega)).1 y))]
    by_cases z2 : i / 12 = 11
    · rw [if_pos (by rw [z2]), bl, show decide (i < 132) = false from decide_eq_false (by omega), Bool.false_and, Bool.and_false]; rfl
    · rw [if_neg (fun y => z2 ((nI_eq (by omega) (by omega)).1 y)), ev_ld hi (by omega), ev_ld (by omega) (by omega), ev_ld (by omega) (by omega), ev_ld (by omega) (by omega), hfg i hi, hfg _ (by omega), hfg _ (by omega), hfg _ (by omega), bl, decide_eq_true (show i % 12 < 11 by omega), decide_eq_true (show i < 132 by omega), Bool.true_and, Bool.true_and]
      by_cases y1 : g i = g (i + 1)
      · rw [if_pos y1, decide_eq_true y1, Bool.true_and]
        by_cases y2 : g i = g (i + 12)
        · rw [if_pos y2, decide_eq_true y2, Bool.true_and, show i + 12 + 1 = i + 13 from rfl]
          by_cases y3 : g i = g (i + 13)
          · rw [if_pos y3, decide_eq_true y3]; rfl
          · rw [if_neg y3, decide_eq_false y3]; rfl
        · rw [if_neg y2, decide_eq_false y2]; rfl
      · rw [if_neg y1, decide_eq_false y1]; rfl
theorem f_penalty {f g : Nat → Int32} {b : Nat → Nat} (hfg : ∀ i, i < 144 → f i = g i) (hb : ∀ i, i < 144 → g i = nI (b i) ∧ b i ≤ 1) : im_X3_penalty 144 f = some (nI (pen g b)) := by
  obtain ⟨s1, h1, e1⟩ := lp_up (fun q k (s : Int32) => fun K => im_X3_penalty_L6 K 144 f q s k) (fun s => fun K => K s) 12
    (fun k s => s = nI (smn (rPn g) k))
    (fun q s _ => by
      funext K
      rw [im_X3_penalty_L6, if_pos (by decide)])
    (fun q k s hk hs => ⟨nI (smn (rPn g) (k + 1)), rfl, by
      funext K
      rw [im_X3_penalty_L6, if_neg (show ¬ (12 : Int32) ≤ nI k from nI_ge (b := 12) hk (by omega)), ev_lt, show (12 : Int32) = nI 12 from rfl, pk_mul, im_X3_runPenalty, im_X3_runPenalty]
      rw [show im_X3_runPenalty_L8 1 (nI (k * 12)) 144 f 5000 0 0 0 = _ from f_runs (x := k * 12) (st := 1) (by omega) hfg 12 0 0 0 5000 (by omega) (by omega) (by omega), ev_b1]
      rw [show im_X3_runPenalty_L8 (nI 12) (nI k) 144 f 5000 0 0 0 = _ from f_runs (x := k) (st := 12) (by omega) hfg 12 0 0 0 5000 (by omega) (by omega) (by omega), ev_b1]
      simp only [ev_lt]
      rw [nI_add, hs, nI_add, nI_1, smn, rPn, Nat.zero_add, Nat.zero_add, Nat.mul_comm k 12]⟩) 12 0 0 5000 (by omega) (by omega) rfl
  obtain ⟨A, hA⟩ : ∃ A, smn (rPn g) 12 = A := ⟨_, rfl⟩
  rw [hA] at h1
  obtain ⟨s2, ⟨h2, h3⟩, e2⟩ := lp_up (fun q i (s : Int32 × Int32) => fun K => im_X3_penalty_L40 K 144 f q s.1 s.2 i) (fun s => fun K => K s.1 s.2) 144
    (fun i s => s.1 = nI (A + smn (fun i => if bl g i then 3 else 0) i) ∧ s.2 = nI (smn b i))
    (fun q s _ => by
      funext K
      rw [im_X3_penalty_L40, if_pos (by decide)])
    (fun q i s hi hs => ⟨(nI (A + smn (fun i => if bl g i then 3 else 0) (i + 1)), nI (smn b (i + 1))), ⟨rfl, rfl⟩, by
      funext K
      rw [im_X3_penalty_L40, if_neg (show ¬ (144 : Int32) ≤ nI i from nI_ge (b := 144) hi (by omega)), ev_j2, f_block hfg hi, ev_b1]
      simp only [ev_lt]
      have hbi := (hb i hi).1
      have hfi := hfg i hi
      cases hc : bl g i with
      | true =>
        rw [if_neg (by decide), ev_ld hi (by omega), hfi, hbi, hs.1, hs.2, nI_add, nI_1, smn_s b, smn_s _ i, hc, show (3 : Int32) = nI 3 from rfl, nI_add, Nat.add_assoc]
        rfl
      | false =>
        rw [if_pos (by decide), ev_ld hi (by omega), hfi, hbi, hs.1, hs.2, nI_add, nI_1, smn_s b, smn_s _ i, hc, show (0 : Int32) = nI 0 from rfl, nI_add]
        rfl⟩) 144 0 (s1, 0) 5000 (by omega) (by omega) ⟨h1, rfl⟩
  have h4 := smn_b (f := b) (c := 1) 144 (fun i hi => (hb i hi).2)
  rw [im_X3_penalty, ev_j1]
  refine (congrFun e1 _).trans ?_
  rw [ev_j2]
  refine (congrFun e2 _).trans ?_
  simp only [ev_lt]
  rw [h2, h3, ab_f _ (by omega), nI_add, pen, hA]
theorem g_penalty {f g : Nat → Int32} {b : Nat → Nat} (hfg : ∀ i, i < 144 → f i = g i) (hb : ∀ i, i < 144 → g i = nI (b i) ∧ b i ≤ 1) : im_X5_penalty 144 f = some (nI (pen g b)) := by
  obtain ⟨s1, h1, e1⟩ := lp_up (fun q k (s : Int32) => fun K => im_X5_penalty_L6 K 144 f q s k) (fun s => fun K => K s) 12
    (fun k s => s = nI (smn (rPn g) k))
    (fun q s _ => by
      funext K
      rw [im_X5_penalty_L6, if_pos (by decide)])
    (fun q k s hk hs => ⟨nI (smn (rPn g) (k + 1)), rfl, by
      funext K
      rw [im_X5_penalty_L6, if_neg (show ¬ (12 : Int32) ≤ nI k from nI_ge (b := 12) hk (by omega)), ev_lt, show (12 : Int32) = nI 12 from rfl, pk_mul, im_X5_runs, im_X5_runs]
      rw [show im_X5_runs_L5 1 (nI (12 * k)) 144 f 5000 0 0 = _ from g_runs (x := 12 * k) (st := 1) (by omega) hfg 12 0 0 5000 (by omega) (by omega), ev_b1]
      rw [show im_X5_runs_L5 (nI 12) (nI k) 144 f 5000 0 0 = _ from g_runs (x := k) (st := 12) (by omega) hfg 12 0 0 5000 (by omega) (by omega), ev_lt, ev_b1]
      simp only [ev_lt]
      rw [hs, nI_add, nI_add, nI_1, smn, rPn, Nat.zero_add, Nat.zero_add, Nat.add_assoc]⟩) 12 0 0 5000 (by omega) (by omega) rfl
  obtain ⟨A, hA⟩ : ∃ A, smn (rPn g) 12 = A := ⟨_, rfl⟩
  rw [hA] at h1
  obtain ⟨s2, ⟨h2, h3⟩, e2⟩ := lp_up (fun q i (s : Int32 × Int32) => fun K => im_X5_penalty_L40 K 144 f q s.1 s.2 i) (fun s => fun K => K s.1 s.2) 144
    (fun i s => s.1 = nI (A + smn (fun i => if bl g i then 3 else 0) i) ∧ s.2 = nI (smn b i))
    (fun q s _ => by
      funext K
      rw [im_X5_penalty_L40, if_pos (by decide)])
    (fun q i s hi hs => ⟨(nI (A + smn (fun i => if bl g i then 3 else 0) (i + 1)), nI (smn b (i + 1))), ⟨rfl, rfl⟩, by
      funext K
      have hfin : ∀ (c : Bool), bl g i = c → (if (if c then (1 : Int32) else 0) = 0 then im_X5_penalty_L40 K 144 f q (nI (A + smn (fun i => if bl g i then 3 else 0) i)) (nI (smn b (i + 1))) (nI (i + 1)) else im_X5_penalty_L40 K 144 f q (nI (A + smn (fun i => if bl g i then 3 else 0) i) + 3) (nI (smn b (i + 1))) (nI (i + 1))) = im_X5_penalty_L40 K 144 f q (nI (A + smn (fun i => if bl g i then 3 else 0) (i + 1))) (nI (smn b (i + 1))) (nI (i + 1)) := by
        intro c hc
        rw [smn_s (fun i => if bl g i then 3 else 0) i, hc]
        cases c with
        | true => rw [if_neg (by decide), show (3 : Int32) = nI 3 from rfl, nI_add, Nat.add_assoc]; rfl
        | false => rw [if_pos (by decide)]; rfl
      rw [im_X5_penalty_L40, if_neg (show ¬ (144 : Int32) ≤ nI i from nI_ge (b := 144) hi (by omega)), ev_j2, ev_j1]
      simp only [ev_lt, ev_j1]
      rw [ev_ld hi (by omega), hfg i hi, (hb i hi).1, hs.1, hs.2, nI_add, nI_1, show smn b i + b i = smn b (i + 1) from rfl, show (12 : Int32) = nI 12 from rfl, show (13 : Int32) = nI 13 from rfl, pk_rem (by omega) (by omega) (by omega), nI_add, nI_add]
      by_cases z : i % 12 < 11
      · rw [if_neg (show ¬ (11 : Int32) ≤ nI (i % 12) from nI_ge (b := 11) z (by omega))]
        by_cases z2 : i < 132
        · rw [if_neg (show ¬ (132 : Int32) ≤ nI i from nI_ge (b := 132) z2 (by omega)), ev_ld hi (by omega), ev_ld (by omega) (by omega), ev_ld hi (by omega), ev_ld (by omega) (by omega), ev_ld hi (by omega), ev_ld (by omega) (by omega), hfg i hi, hfg (i + 1) (by omega), hfg (i + 12) (by omega), hfg (i + 13) (by omega)]
          have hbl : bl g i = (decide (g i = g (i + 1)) && (decide (g i = g (i + 12)) && decide (g i = g (i + 13)))) := by
            rw [bl, decide_eq_true z, decide_eq_true z2, Bool.true_and, Bool.true_and]
          by_cases y1 : g i = g (i + 1)
          · rw [if_pos y1]
            by_cases y2 : g i = g (i + 12)
            · rw [if_pos y2]
              by_cases y3 : g i = g (i + 13)
              · rw [if_pos y3]; exact hfin true (by rw [hbl, decide_eq_true y1, decide_eq_true y2, decide_eq_true y3]; rfl)
              · rw [if_neg y3]; exact hfin false (by rw [hbl, decide_eq_false y3, Bool.and_false, Bool.and_false])
            · rw [if_neg y2]; exact hfin false (by rw [hbl, decide_eq_false y2, Bool.false_and, Bool.and_false])
          · rw [if_neg y1]; exact hfin false (by rw [hbl, decide_eq_false y1, Bool.false_and])
        · rw [if_pos (show (132 : Int32) ≤ nI i from nI_le (a := 132) (by omega) (by omega))]
          exact hfin false (by rw [bl, decide_eq_false z2, Bool.false_and, Bool.and_false])
      · rw [if_pos (show (11 : Int32) ≤ nI (i % 12) from nI_le (a := 11) (by omega) (by omega))]
        exact hfin false (by rw [bl, decide_eq_false z, Bool.false_and])⟩) 144 0 (s1, 0) 5000 (by omega) (by omega) ⟨h1, rfl⟩
  have h4 := smn_b (f := b) (c := 1) 144 (fun i hi => (hb i hi).2)
  rw [im_X5_penalty, ev_j1]
  refine (congrFun e1 _).trans ?_
  rw [ev_j2]
  refine (congrFun e2 _).trans ?_
  rw [ev_j2, ev_lt, ev_lt, h2, h3]
  by_cases z : 0 ≤ (144 : Int32) - 2 * nI (smn b 144)
  · rw [if_pos z]
    simp only [ev_lt]
    rw [(ab_g _ (by omega)).1 z, nI_add, pen, hA]
  · rw [if_neg z]
    simp only [ev_lt]
    rw [(ab_g _ (by omega)).2 z, nI_add, pen, hA]
