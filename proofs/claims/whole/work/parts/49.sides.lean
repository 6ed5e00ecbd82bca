def ot (k : Nat) (x : Int32) : Int32 := if k < 2 ∧ (x = 1 ∨ x = 2) then 3 - x else x
theorem ot_f {k : Nat} (hk : k < 4) (x : Int32) : im_X2_fromOtherSide x (kh k) = some (ot k x) := by
  rw [im_X2_fromOtherSide, ev_j0, ev_lt, ot]
  by_cases z : k < 2
  · rw [if_neg (show ¬ kh k = 0 by have : k = 0 ∨ k = 1 := by omega
                                   rcases this with rfl | rfl <;> decide)]
    by_cases y1 : x = 1
    · rw [if_pos y1, if_pos ⟨z, Or.inl y1⟩]
    · by_cases y2 : x = 2
      · rw [if_neg y1, if_pos y2, if_pos ⟨z, Or.inr y2⟩]
      · rw [if_neg y1, if_neg y2, if_neg (fun h => h.2.elim y1 y2)]
  · rw [if_pos (show kh k = 0 by have : k = 2 ∨ k = 3 := by omega
                                 rcases this with rfl | rfl <;> rfl), if_neg (fun h => z h.1)]
def an (k : Nat) (o : Bool) (t : Nat → Int32) (i : Nat) : Int32 := if o then ot k (t (kL k - 1 - i)) else t i
theorem len_g : ∀ k, k < 4 → im_X5_length (nI k) (nI (kn k)) = some (nI (kL k)) := by decide +kernel
def ob (o : Bool) : Int32 := if o then 1 else 0
theorem k_0 {k : Nat} (hk : k < 4) : nI k = 0 ↔ k = 0 := nI_eq (b := 0) (by omega) (by omega)
theorem k_1 {k : Nat} (hk : k < 4) : nI k = 1 ↔ k = 1 := nI_eq (b := 1) (by omega) (by omega)
theorem g_at {k i : Nat} {o : Bool} {t : Nat → Int32} (hk : k < 4) (hi : i < kL k) : im_X5_at (nI i) (ob o) (nI k) (nI (kn k)) 200 t = some (an k o t i) := by
  have hp := kp k hk
  cases o with
  | false =>
    rw [im_X5_at, ev_j1, if_pos (show ob false = 0 from rfl)]
    show im_j2 _ _ = _
    rw [ev_j2, ev_j1, ev_ld (by omega) (by omega)]
    have hfin : ∀ c : Int32, (if ob false = 0 then some (t i) else if c = 0 then some (t i) else im_j0 (im_lt ((3 : Int32) - t i) (fun v8 => (some v8))) (fun K7 => if t i = (1 : Int32) then (K7) else if t i = (2 : Int32) then (K7) else some (t i))) = some (an k false t i) := fun c => if_pos rfl
    by_cases z : k = 0
    · rw [if_pos ((k_0 hk).2 z)]; exact hfin 1
    · by_cases y : k = 1
      · rw [if_neg (fun q => z ((k_0 hk).1 q)), if_pos ((k_1 hk).2 y)]; exact hfin 1
      · rw [if_neg (fun q => z ((k_0 hk).1 q)), if_neg (fun q => y ((k_1 hk).1 q))]; exact hfin 0
  | true =>
    rw [im_X5_at, ev_j1, if_neg (show ¬ ob true = 0 by decide), len_g k hk, ev_b1, ev_lt, ev_lt, show nI (kL k) - 1 = nI (kL k - 1) from pk_sub (b := 1) (by omega), pk_sub (by omega)]
    show im_j2 _ _ = _
    rw [ev_j2, ev_j1, ev_ld (by omega) (by omega)]
    have hfin : ∀ c : Int32, (c = 0 ↔ ¬ k < 2) → (if ob true = 0 then some (t (kL k - 1 - i)) else if c = 0 then some (t (kL k - 1 - i)) else im_j0 (im_lt ((3 : Int32) - t (kL k - 1 - i)) (fun v8 => (some v8))) (fun K7 => if t (kL k - 1 - i) = (1 : Int32) then (K7) else if t (kL k - 1 - i) = (2 : Int32) then (K7) else some (t (kL k - 1 - i)))) = some (an k true t i) := by
      intro c hc
      rw [if_neg (show ¬ ob true = 0 by decide), an, if_pos rfl, ot, ev_j0, ev_lt]
      by_cases z : c = 0
      · rw [if_pos z, if_neg (fun h => hc.1 z h.1)]
      · rw [if_neg z]
        have hk2 : k < 2 := Classical.byContradiction (fun y => z (hc.2 y))
        by_cases y1 : t (kL k - 1 - i) = 1
        · rw [if_pos y1, if_pos ⟨hk2, Or.inl y1⟩]
        · by_cases y2 : t (kL k - 1 - i) = 2
          · rw [if_neg y1, if_pos y2, if_pos ⟨hk2, Or.inr y2⟩]
          · rw [if_neg y1, if_neg y2, if_neg (fun h => h.2.elim y1 y2)]
    by_cases z : k = 0
    · rw [if_pos ((k_0 hk).2 z)]; exact hfin 1 ⟨fun q => absurd q (by decide), fun q => absurd (show k < 2 by omega) q⟩
    · by_cases y : k = 1
      · rw [if_neg (fun q => z ((k_0 hk).1 q)), if_pos ((k_1 hk).2 y)]; exact hfin 1 ⟨fun q => absurd q (by decide), fun q => absurd (show k < 2 by omega) q⟩
      · rw [if_neg (fun q => z ((k_0 hk).1 q)), if_neg (fun q => y ((k_1 hk).1 q))]; exact hfin 0 ⟨fun _ => by omega, fun _ => rfl⟩
/-- how much of the frame is seen -/
def fc (k : Nat) (o : Bool) (t : Nat → Int32) (n : Nat) : Nat := gf_c n (fun i => decide (fr k i ≠ -1) && decide (an k o t i = fr k i))
theorem fc_s (k : Nat) (o : Bool) (t : Nat → Int32) (i : Nat) : fc k o t (i + 1) = fc k o t i + (if (decide (fr k i ≠ -1) && decide (an k o t i = fr k i)) then 1 else 0) := rfl
theorem fc_b (k : Nat) (o : Bool) (t : Nat → Int32) (n : Nat) : fc k o t n ≤ n := gf_c_max _ _
theorem g_frames {k : Nat} {o : Bool} {t : Nat → Int32} (hk : k < 4) : im_X5_frames (ob o) (nI k) (nI (kn k)) 200 t = some (nI (fc k o t (kL k))) := by
  have hp := kp k hk
  obtain ⟨s, hs, e⟩ := lp_up (fun q i (s : Int32) => im_X5_frames_L4 (nI k) (nI (kn k)) (ob o) 200 t q s i) (fun s => some s) (kL k)
    (fun i s => s = nI (fc k o t i))
    (fun q s _ => by
      show im_X5_frames_L4 (nI k) (nI (kn k)) (ob o) 200 t (q + 1) s (nI (kL k)) = _
      rw [im_X5_frames_L4, len_g k hk, ev_b1, if_pos (nI_le (Nat.le_refl _) (by omega))])
    (fun q i s hi hs => ⟨nI (fc k o t (i + 1)), rfl, by
      show im_X5_frames_L4 (nI k) (nI (kn k)) (ob o) 200 t (q + 1) s (nI i) = im_X5_frames_L4 (nI k) (nI (kn k)) (ob o) 200 t q (nI (fc k o t (i + 1))) (nI (i + 1))
      rw [im_X5_frames_L4, len_g k hk, ev_b1, if_neg (nI_ge hi (by omega)), ev_j1, ev_j0, fr_g k hk i hi, ev_b1, g_at hk hi, ev_b1, ev_b1, hs]
      simp only [ev_lt]
      rw [nI_1, nI_1, fc_s]
      by_cases z : fr k i = -1
      · rw [if_pos z, decide_eq_false (fun h => h z), Bool.false_and]; rfl
      · rw [if_neg z, decide_eq_true z, Bool.true_and]
        by_cases y : an k o t i = fr k i
        · rw [if_pos y, decide_eq_true y]; rfl
        · rw [if_neg y, decide_eq_false y]; rfl⟩) (kL k) 0 0 5000 (by omega) (by omega) rfl
  rw [im_X5_frames]
  rw [hs] at e
  exact e
theorem f_looks {k : Nat} {s t fE fT fM : Nat → Int32} (hk : k < 4) (hst : St fE fT fM) (hs : ∀ i, i < kL k → s i = t i) : im_X2_looksTurned (nI k) (nI (kL k)) (kh k) 200 4 4 s fE fT = some (ob (decide (fc k false t (kL k) < fc k true t (kL k)))) := by
  have hp := kp k hk
  obtain ⟨r, ⟨h1, h2⟩, e⟩ := lp_up (fun q i (r : Int32 × Int32) => fun K => im_X2_looksTurned_L7 (nI (kL k)) K (nI k) (kh k) 4 4 fE fT 200 s q r.1 r.2 i) (fun r => fun K => K r.1 r.2) (kL k)
    (fun i r => r.1 = nI (fc k false t i) ∧ r.2 = nI (fc k true t i))
    (fun q s _ => by
      funext K
      rw [im_X2_looksTurned_L7, if_pos (nI_le (Nat.le_refl _) (by omega))])
    (fun q i r hi hr => ⟨(nI (fc k false t (i + 1)), nI (fc k true t (i + 1))), ⟨rfl, rfl⟩, by
      funext K
      rw [im_X2_looksTurned_L7, if_neg (nI_ge hi (by omega)), ev_j2, fr_f hst hk hi, ev_b1]
      simp only [ev_lt, ev_j2, ev_j3]
      rw [hr.1, hr.2, nI_1]
      have hf : nI (fc k false t (i + 1)) = nI (fc k false t i) + (if fr k i = -1 then 0 else if s i = fr k i then 1 else 0) := by
        rw [fc_s, hs i hi]
        by_cases z : fr k i = -1
        · rw [if_pos z, decide_eq_false (fun h => h z), Bool.false_and]; exact (nI_add _ 0).symm
        · rw [if_neg z, decide_eq_true z, Bool.true_and]
          by_cases y : t i = fr k i
          · rw [if_pos y, show decide (an k false t i = fr k i) = true from decide_eq_true y, if_pos rfl]; exact (nI_1 _).symm
          · rw [if_neg y, show decide (an k false t i = fr k i) = false from decide_eq_false y]; exact (nI_add _ 0).symm
      have ht : nI (fc k true t (i + 1)) = nI (fc k true t i) + (if fr k i = -1 then 0 else if ot k (s (kL k - 1 - i)) = fr k i then 1 else 0) := by
        rw [fc_s, hs _ (by omega)]
        by_cases z : fr k i = -1
        · rw [if_pos z, decide_eq_false (fun h => h z), Bool.false_and]; exact (nI_add _ 0).symm
        · rw [if_neg z, decide_eq_true z, Bool.true_and]
          by_cases y : ot k (t (kL k - 1 - i)) = fr k i
          · rw [if_pos y, show decide (an k true t i = fr k i) = true from decide_eq_true y, if_pos rfl]; exact (nI_1 _).symm
          · rw [if_neg y, show decide (an k true t i = fr k i) = false from decide_eq_false y]; exact (nI_add _ 0).symm
      show _ = im_X2_looksTurned_L7 (nI (kL k)) K (nI k) (kh k) 4 4 fE fT 200 s q (nI (fc k false t (i + 1))) (nI (fc k true t (i + 1))) (nI (i + 1))
      rw [hf, ht]
      by_cases z : fr k i = -1
      · rw [if_pos z, if_pos z, if_pos z, show ∀ x : Int32, x + 0 = x from fun x => Int32.add_zero x, Int32.add_zero]
      · rw [if_neg z, if_neg z, if_neg z, show nI (kL k) - 1 = nI (kL k - 1) from pk_sub (b := 1) (by omega), pk_sub (by omega), ev_ld (by omega) (by omega)]
        by_cases y : s i = fr k i
        · rw [if_pos y, if_pos y, ev_ld (by omega) (by omega), ot_f hk, ev_b1]
          by_cases x : ot k (s (kL k - 1 - i)) = fr k i
          · rw [if_pos x, if_pos x]
          · rw [if_neg x, if_neg x]
        · rw [if_neg y, if_neg y, ev_ld (by omega) (by omega), ot_f hk, ev_b1]
          by_cases x : ot k (s (kL k - 1 - i)) = fr k i
          · rw [if_pos x, if_pos x]
          · rw [if_neg x, if_neg x]⟩) (kL k) 0 (0, 0) 5000 (by omega) (by omega) ⟨rfl, rfl⟩
  have b1 := fc_b k false t (kL k)
  have b2 := fc_b k true t (kL k)
  rw [im_X2_looksTurned, ev_j2]
  refine (congrFun e _).trans ?_
  rw [h1, h2]
  by_cases z : fc k false t (kL k) < fc k true t (kL k)
  · rw [if_neg (nI_ge z (by omega)), decide_eq_true z]; rfl
  · rw [if_pos (nI_le (by omega) (by omega)), decide_eq_false z]; rfl
theorem kL2 : ∀ k, k < 4 → 2 * (kL k / 2) = kL k ∧ 0 < kL k := by decide
theorem f_turn {k : Nat} {s : Nat → Int32} (hk : k < 4) : ∃ s', im_X2_turn (nI (kL k)) (kh k) 200 s = some s' ∧ ∀ i, i < kL k → s' i = ot k (s (kL k - 1 - i)) := by
  have hp := kp k hk
  have hL2 := kL2 k hk
  obtain ⟨r, ⟨h1, h2, h3⟩, e⟩ := lp_up (fun q i (r : Int32 × (Nat → Int32)) => im_X2_turn_L9 200 (kh k) q i r.1 r.2) (fun r => some r.2) (kL k / 2)
    (fun i r => r.1 = nI (kL k - i) + (-1) ∧ (∀ a, a < i → r.2 a = ot k (s (kL k - 1 - a)) ∧ r.2 (kL k - 1 - a) = ot k (s a)) ∧ ∀ a, i ≤ a → a < kL k - i → r.2 a = s a)
    (fun q r hr => by
      show im_X2_turn_L9 200 (kh k) (q + 1) (nI (kL k / 2)) r.1 r.2 = _
      obtain ⟨c, hc⟩ : ∃ c, kL k - kL k / 2 = c + 1 := ⟨kL k - kL k / 2 - 1, by omega⟩
      rw [im_X2_turn_L9, hr.1, hc, pk_m1, if_pos (nI_lt (by omega) (by omega))])
    (fun q i r hi hr => by
      obtain ⟨c, hc⟩ : ∃ c, kL k - i = c + 1 := ⟨kL k - i - 1, by omega⟩
      have hci : c = kL k - 1 - i := by omega
      refine ⟨(nI (kL k - (i + 1)) + (-1), upd (upd r.2 i (ot k (s c))) c (ot k (s i))), ⟨rfl, fun a ha => ⟨?_, ?_⟩, fun a ha ha2 => ?_⟩, ?_⟩
      · show upd (upd r.2 i (ot k (s c))) c (ot k (s i)) a = _
        rw [up_n _ _ (by omega)]
        by_cases z : a = i
        · subst z; rw [up_s, hci]
        · rw [up_n _ _ z]; exact (hr.2.1 a (by omega)).1
      · show upd (upd r.2 i (ot k (s c))) c (ot k (s i)) (kL k - 1 - a) = _
        by_cases z : a = i
        · subst z; rw [hci, up_s]
        · rw [up_n _ _ (by omega), up_n _ _ (by omega)]; exact (hr.2.1 a (by omega)).2
      · show upd (upd r.2 i (ot k (s c))) c (ot k (s i)) a = _
        rw [up_n _ _ (by omega), up_n _ _ (by omega)]; exact hr.2.2 a (by omega) (by omega)
      · show im_X2_turn_L9 200 (kh k) (q + 1) (nI i) r.1 r.2 = im_X2_turn_L9 200 (kh k) q (nI (i + 1)) (nI (kL k - (i + 1)) + (-1)) (upd (upd r.2 i (ot k (s c))) c (ot k (s i)))
        rw [im_X2_turn_L9, hr.1, hc, pk_m1, if_neg (nI_nlt (by omega) (by omega)), ev_ld (by omega) (by omega), ev_ld (by omega) (by omega), hr.2.2 i (by omega) (by omega), hr.2.2 c (by omega) (by omega), ot_f hk, ev_b1, ev_st (by omega) (by omega), ot_f hk, ev_b1, ev_st (by omega) (by omega), ev_lt, ev_lt, nI_1, show kL k - (i + 1) = c by omega]) (kL k / 2) 0 (nI (kL k) + (-1), s) 5000 (by omega) (by omega) ⟨rfl, fun a ha => by omega, fun a _ _ => rfl⟩
  refine ⟨r.2, ?_, fun i hi => ?_⟩
  · rw [im_X2_turn, ev_lt, show nI (kL k) - 1 = nI (kL k) + (-1) from (sub_1 _).symm]
    exact e
  · by_cases z : i < kL k / 2
    · exact (h2 i z).1
    · have := (h2 (kL k - 1 - i) (by omega)).2
      rwa [show kL k - 1 - (kL k - 1 - i) = i by omega] at this
/-- the mask that is nearest -/
def ds (r : Nat → Int32) (mm : Nat) (n : Nat) : Nat := gf_c n (fun j => decide (r (pl 2 (96 + j)) ≠ -1) && decide (r (pl 2 (96 + j)) ≠ sg mm j))
theorem ds_s (r : Nat → Int32) (mm n : Nat) : ds r mm (n + 1) = ds r mm n + (if (decide (r (pl 2 (96 + n)) ≠ -1) && decide (r (pl 2 (96 + n)) ≠ sg mm n)) then 1 else 0) := rfl
theorem f_near {s fE fT fM : Nat → Int32} (hst : St fE fT fM) {r : Nat → Int32} (hs : ∀ i, i < 144 → s i = r i) : im_X3_nearestMask 200 4 s fM = some (nI (bs (fun mm => ds r mm 4) 4)) := by
  obtain ⟨a, ⟨h1, _⟩, e⟩ := lp_up (fun q mm (a : Int32 × Int32) => im_X3_nearestMask_L6 200 s 4 fM q a.1 a.2 mm) (fun a => some a.1) 4
    (fun mm a => Bs (fun mm => ds r mm 4) 5 mm a.1 a.2)
    (fun q a _ => by
      show im_X3_nearestMask_L6 200 s 4 fM (q + 1) a.1 a.2 (nI 4) = _
      rw [im_X3_nearestMask_L6, if_pos (by decide)])
    (fun q mm a hm ha => by
      obtain ⟨c, hc, ec⟩ := lp_up (fun q j (c : Int32) => fun K => im_X3_nearestMask_L17 K 200 s (nI mm) 4 fM q c j) (fun c => fun K => K c) 4
        (fun j c => c = nI (ds r mm j))
        (fun q a _ => by
          funext K
          rw [im_X3_nearestMask_L17, if_pos (by decide)])
        (fun q j c hj hc => ⟨nI (ds r mm (j + 1)), rfl, by
          have hL : pl 2 (96 + j) < 144 := pl_L (k := 2) (by omega) (by show 96 + j < 100; omega)
          funext K
          rw [im_X3_nearestMask_L17, if_neg (show ¬ (4 : Int32) ≤ nI j from nI_ge (b := 4) hj (by omega)), ev_j2, ev_j1, ev_lt, show (96 : Int32) = nI 96 from rfl, nI_add, (pl_sq (96 + j) (by omega)).1, ev_b1, ev_ld (by omega) (by omega), hs _ hL, sg_f hst hm hj, ev_b1, hc, ds_s]
          by_cases z : r (pl 2 (96 + j)) = -1
          · rw [if_pos z, decide_eq_false (fun h => h z), Bool.false_and]
            show im_lt _ _ = _
            rw [ev_lt, ev_lt, nI_1, Int32.add_zero]; rfl
          · rw [if_neg z, decide_eq_true z, Bool.true_and]
            by_cases y : r (pl 2 (96 + j)) = sg mm j
            · rw [if_pos y, decide_eq_false (fun h => h y)]
              show im_lt _ _ = _
              rw [ev_lt, ev_lt, nI_1, Int32.add_zero]; rfl
            · rw [if_neg y, decide_eq_true y]
              show im_lt _ _ = _
              rw [ev_lt, ev_lt, nI_1, nI_1]; rfl⟩) 4 0 0 5000 (by omega) (by omega) rfl
      have hb : ∀ i, ds r i 4 ≤ 4 := fun i => gf_c_max _ _
      have hst2 := ha.step (fun i _ => by have := hb i; omega) (nI_lt (b := 5) (by have := hb 0; omega) (by omega))
      refine ⟨(if a.2 ≤ nI (ds r mm 4) then a.1 else nI mm, if a.2 ≤ nI (ds r mm 4) then a.2 else nI (ds r mm 4)), hst2, ?_⟩
      show im_X3_nearestMask_L6 200 s 4 fM (q + 1) a.1 a.2 (nI mm) = im_X3_nearestMask_L6 200 s 4 fM q (if a.2 ≤ nI (ds r mm 4) then a.1 else nI mm) (if a.2 ≤ nI (ds r mm 4) then a.2 else nI (ds r mm 4)) (nI (mm + 1))
      rw [im_X3_nearestMask_L6, if_neg (show ¬ (4 : Int32) ≤ nI mm from nI_ge (b := 4) hm (by omega)), ev_j1]
      refine (congrFun ec _).trans ?_
      rw [ev_j2, hc]
      by_cases z : a.2 ≤ nI (ds r mm 4)
      · rw [if_pos z, if_pos z, if_pos z]
        show im_lt _ _ = _
        rw [ev_lt, nI_1]
      · rw [if_neg z, if_neg z, if_neg z]
        show im_lt _ _ = _
        rw [ev_lt, nI_1]) 4 0 (0, 5) 5000 (by omega) (by omega) ⟨rfl, rfl⟩
  rw [im_X3_nearestMask, ← h1]
  exact e
theorem g_mask {o : Bool} {t : Nat → Int32} : im_X5_maskOf (ob o) (nI 2) (nI 16) 200 t = some (nI (bs (fun mm => ds (an 2 o t) mm 4) 4)) := by
  obtain ⟨a, ⟨h1, _⟩, e⟩ := lp_up (fun q mm (a : Int32 × Int32) => im_X5_maskOf_L8 (ob o) (nI 2) (nI 16) 200 t q a.1 a.2 mm) (fun a => some a.1) 4
    (fun mm a => Bs (fun mm => ds (an 2 o t) mm 4) 9 mm a.1 a.2)
    (fun q a _ => by
      show im_X5_maskOf_L8 (ob o) (nI 2) (nI 16) 200 t (q + 1) a.1 a.2 (nI 4) = _
      rw [im_X5_maskOf_L8, if_pos (by decide)])
    (fun q mm a hm ha => by
      obtain ⟨c, hc, ec⟩ := lp_up (fun q j (c : Int32) => fun K => im_X5_maskOf_L20 K (ob o) (nI 2) (nI 16) 200 t (nI mm) q c j) (fun c => fun K => K c) 4
        (fun j c => c = nI (ds (an 2 o t) mm j))
        (fun q a _ => by
          funext K
          rw [im_X5_maskOf_L20, if_pos (by decide)])
        (fun q j c hj hc => ⟨nI (ds (an 2 o t) mm (j + 1)), rfl, by
          have hL : pl 2 (96 + j) < 144 := pl_L (k := 2) (by omega) (by show 96 + j < 100; omega)
          funext K
          rw [im_X5_maskOf_L20, if_neg (show ¬ (4 : Int32) ≤ nI j from nI_ge (b := 4) hj (by omega)), ev_j1, ev_j0, ev_lt, show (96 : Int32) = nI 96 from rfl, nI_add, (pl_sq (96 + j) (by omega)).2, ev_b1, show im_X5_at (nI (pl 2 (96 + j))) (ob o) (nI 2) (nI 16) 200 t = some (an 2 o t (pl 2 (96 + j))) from g_at (k := 2) (by omega) hL, ev_b1, (sg_ok mm hm j hj).1, ev_b1, hc, ds_s]
          by_cases z : an 2 o t (pl 2 (96 + j)) = -1
          · rw [if_pos z, decide_eq_false (fun h => h z), Bool.false_and]
            show im_lt _ _ = _
            rw [ev_lt, nI_1]; rfl
          · rw [if_neg z, decide_eq_true z, Bool.true_and]
            by_cases y : an 2 o t (pl 2 (96 + j)) = sg mm j
            · rw [if_pos y, decide_eq_false (fun h => h y)]
              show im_lt _ _ = _
              rw [ev_lt, nI_1]; rfl
            · rw [if_neg y, decide_eq_true y]
              show im_lt _ _ = _
              rw [ev_lt]
              show im_lt _ _ = _
              rw [ev_lt, nI_1, nI_1]; rfl⟩) 4 0 0 5000 (by omega) (by omega) rfl
      have hb : ∀ i, ds (an 2 o t) i 4 ≤ 4 := fun i => gf_c_max _ _
      have hst2 := ha.step (fun i _ => by have := hb i; omega) (nI_lt (b := 9) (by have := hb 0; omega) (by omega))
      refine ⟨(if a.2 ≤ nI (ds (an 2 o t) mm 4) then a.1 else nI mm, if a.2 ≤ nI (ds (an 2 o t) mm 4) then a.2 else nI (ds (an 2 o t) mm 4)), hst2, ?_⟩
      show im_X5_maskOf_L8 (ob o) (nI 2) (nI 16) 200 t (q + 1) a.1 a.2 (nI mm) = im_X5_maskOf_L8 (ob o) (nI 2) (nI 16) 200 t q (if a.2 ≤ nI (ds (an 2 o t) mm 4) then a.1 else nI mm) (if a.2 ≤ nI (ds (an 2 o t) mm 4) then a.2 else nI (ds (an 2 o t) mm 4)) (nI (mm + 1))
      rw [im_X5_maskOf_L8, if_neg (show ¬ (4 : Int32) ≤ nI mm from nI_ge (b := 4) hm (by omega)), ev_j1]
      refine (congrFun ec _).trans ?_
      rw [ev_j1, hc]
      by_cases z : a.2 ≤ nI (ds (an 2 o t) mm 4)
      · rw [if_pos z, if_pos z, if_pos z]
        show im_j2 _ _ = _
        rw [ev_j2, if_pos z]
        show im_lt _ _ = _
        rw [ev_lt, nI_1]
      · rw [if_neg z, if_neg z, if_neg z]
        show im_j2 _ _ = _
        rw [ev_j2, if_neg z]
        show im_lt _ _ = _
        rw [ev_lt, nI_1]) 4 0 (0, 9) 5000 (by omega) (by omega) ⟨rfl, rfl⟩
  rw [im_X5_maskOf, ← h1]
  exact e
