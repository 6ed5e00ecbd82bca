def cg (val : Nat → Int32) (i : Nat) : Int32 := if 1 ≤ i % 12 ∧ i % 12 ≤ 10 ∧ 1 ≤ i / 12 ∧ i / 12 ≤ 10 then val ((i / 12 - 1) * 10 + (i % 12 - 1)) else fr 2 i
theorem cg_ly {val row : Nat → Int32} (h : Ly 100 (pl 2) val (fr 2) 144 row) : ∀ i, i < 144 → row i = cg val i := by
  intro i hi
  rw [cg]
  by_cases z : 1 ≤ i % 12 ∧ i % 12 ≤ 10 ∧ 1 ≤ i / 12 ∧ i / 12 ≤ 10
  · rw [if_pos z, ← h.1 _ (by omega)]
    congr 1
    rw [pl, if_pos rfl]
    omega
  · rw [if_neg z]
    refine h.2 i hi (fun p hp q => z ?_)
    rw [pl, if_pos rfl] at q
    omega
theorem fr_01 : ∀ i, i < 144 → ¬ (1 ≤ i % 12 ∧ i % 12 ≤ 10 ∧ 1 ≤ i / 12 ∧ i / 12 ≤ 10) → fr 2 i = 0 ∨ fr 2 i = 1 := by decide +kernel
def b01 (g : Nat → Int32) (i : Nat) : Nat := if g i = 1 then 1 else 0
theorem b_01 {g : Nat → Int32} {i : Nat} (h : g i = 0 ∨ g i = 1) : g i = nI (b01 g i) ∧ b01 g i ≤ 1 := by
  rw [b01]
  rcases h with h | h
  · rw [h, if_neg (by decide)]; exact ⟨rfl, by omega⟩
  · rw [h, if_pos rfl]; exact ⟨rfl, by omega⟩
theorem x_01 : ∀ b, b < 2 → (nI b ^^^ 0 = (0 : Int32) ∨ nI b ^^^ 0 = (1 : Int32)) ∧ (nI b ^^^ 1 = (0 : Int32) ∨ nI b ^^^ 1 = (1 : Int32)) := by decide
theorem dv_01 {mm : Nat} (hm : mm < 4) (key : Gf) (w : Nat → Gf) {p : Nat} (hp : p < 100) : dv 2 mm key w p = 0 ∨ dv 2 mm key w p = 1 := by
  rw [dv]
  by_cases z : p < kn 2 * kS 2
  · rw [if_pos z, pv]
    have hb : (w (p / kS 2) ^^^ ky 2 key (p / kS 2)).toNat / 2 ^ (6 - (p % kS 2 + 1) * kB 2) % 2 ^ kB 2 < 2 := Nat.mod_lt _ (by decide)
    rcases (tu_sq mm hm (pl 2 p) (pl_L (k := 2) (by omega) hp)).2.2 with y | y
    · rw [y]; exact (x_01 _ hb).1
    · rw [y]; exact (x_01 _ hb).2
  · have hz : ¬ p < 96 := z
    rw [if_neg z]; exact (sg_ok mm hm (p - 96) (by omega)).2.2
theorem cg_01 {mm : Nat} (hm : mm < 4) (key : Gf) (w : Nat → Gf) {i : Nat} (hi : i < 144) : cg (dv 2 mm key w) i = 0 ∨ cg (dv 2 mm key w) i = 1 := by
  rw [cg]
  by_cases z : 1 ≤ i % 12 ∧ i % 12 ≤ 10 ∧ 1 ≤ i / 12 ∧ i / 12 ≤ 10
  · rw [if_pos z]; exact dv_01 hm key w (by omega)
  · rw [if_neg z]; exact fr_01 i hi z
def pn (w : Nat → Gf) (mm : Nat) : Nat := pen (cg (dv 2 mm 0#6 w)) (b01 (cg (dv 2 mm 0#6 w)))
theorem pn_f {mm : Nat} {w : Nat → Gf} {row : Nat → Int32} (hm : mm < 4) (h : Ly 100 (pl 2) (dv 2 mm 0#6 w) (fr 2) 144 row) : im_X3_penalty 144 row = some (nI (pn w mm)) := f_penalty (cg_ly h) (fun _ hi => b_01 (cg_01 hm 0#6 w hi))
theorem pn_g {mm : Nat} {w : Nat → Gf} {row : Nat → Int32} (hm : mm < 4) (h : Ly 100 (pl 2) (dv 2 mm 0#6 w) (fr 2) 144 row) : im_X5_penalty 144 row = some (nI (pn w mm)) := g_penalty (cg_ly h) (fun _ hi => b_01 (cg_01 hm 0#6 w hi))
theorem pn_b {mm : Nat} (w : Nat → Gf) (hm : mm < 4) : pn w mm < 100000 := pen_b (fun _ hi => (b_01 (cg_01 hm 0#6 w hi)).2)
/-- the first of the least -/
def bs (P : Nat → Nat) : Nat → Nat
  | 0 => 0
  | j + 1 => if P j < P (bs P j) then j else bs P j
theorem bs_lt (P : Nat → Nat) : ∀ j, bs P j ≤ j - 1 := by
  intro j
  induction j with
  | zero => exact Nat.le_refl _
  | succ j ih => rw [bs]; split <;> omega
theorem bs_1 (P : Nat → Nat) : bs P 1 = 0 := by
  rw [bs, bs]; split <;> rfl
/-- what the loop holds of least and best -/
def Bs (P : Nat → Nat) (M : Int32) (j : Nat) (best least : Int32) : Prop := best = nI (bs P j) ∧ least = if j = 0 then M else nI (P (bs P j))
theorem Bs.step {P : Nat → Nat} {M best least : Int32} {j : Nat} (h : Bs P M j best least) (hP : ∀ i, i ≤ j → P i < 2 ^ 31) (hM : nI (P 0) < M) : Bs P M (j + 1) (if least ≤ nI (P j) then best else nI j) (if least ≤ nI (P j) then least else nI (P j)) := by
  obtain ⟨h1, h2⟩ := h
  by_cases z : j = 0
  · subst z
    rw [if_pos rfl] at h2
    have : ¬ least ≤ nI (P 0) := by rw [h2]; exact Int32.not_le.2 hM
    rw [if_neg this, if_neg this]
    exact ⟨by rw [bs_1], by rw [if_neg (by omega), bs_1]⟩
  · rw [if_neg z] at h2
    have hb := bs_lt P j
    rw [h1, h2]
    by_cases y : P j < P (bs P j)
    · rw [if_neg (nI_ge y (hP _ (by omega))), if_neg (nI_ge y (hP _ (by omega)))]
      exact ⟨by rw [bs, if_pos y], by rw [if_neg (by omega), bs, if_pos y]⟩
    · rw [if_pos (nI_le (by omega) (hP _ (by omega))), if_pos (nI_le (by omega) (hP _ (by omega)))]
      exact ⟨by rw [bs, if_neg y], by rw [if_neg (by omega), bs, if_neg y]⟩
theorem nI_m1 : ∀ b, b < 4 → nI b ≠ (-1 : Int32) := by decide
/-- the same of a loop that begins with no mask at all -/
def Bn (P : Nat → Nat) (j : Nat) (best least : Int32) : Prop := if j = 0 then best = -1 else best = nI (bs P j) ∧ least = nI (P (bs P j))
theorem Bn.step {P : Nat → Nat} {best least : Int32} {j : Nat} (h : Bn P j best least) (hj : j < 4) (hP : ∀ i, i ≤ j → P i < 2 ^ 31) : Bn P (j + 1) (if best = -1 then nI j else if least ≤ nI (P j) then best else nI j) (if best = -1 then nI (P j) else if least ≤ nI (P j) then least else nI (P j)) := by
  by_cases z : j = 0
  · subst z
    rw [Bn, if_pos rfl] at h
    rw [if_pos h, if_pos h, Bn, if_neg (by omega), bs_1]
    exact ⟨rfl, rfl⟩
  · rw [Bn, if_neg z] at h
    obtain ⟨h1, h2⟩ := h
    have hb := bs_lt P j
    have hn : ¬ best = -1 := by rw [h1]; exact nI_m1 _ (by omega)
    rw [if_neg hn, if_neg hn, Bn, if_neg (by omega), h1, h2]
    by_cases y : P j < P (bs P j)
    · rw [if_neg (nI_ge y (hP _ (by omega))), if_neg (nI_ge y (hP _ (by omega)))]
      exact ⟨by rw [bs, if_pos y], by rw [bs, if_pos y]⟩
    · rw [if_pos (nI_le (by omega) (hP _ (by omega))), if_pos (nI_le (by omega) (hP _ (by omega)))]
      exact ⟨by rw [bs, if_neg y], by rw [bs, if_neg y]⟩
theorem f_best {w : Nat → Gf} {fw made fE fT fM : Nat → Int32} (hst : St fE fT fM) (hw : Rp 16 fw w) :
    ∃ made', im_X4_bestMask (nI 2) (nI 8) (nI 16) (nI 144) (nI 1) 0 (nI 1) (nI 6) (Gi 0#6) 144 16 4 4 4 made fw fE fT fM = some (nI (bs (pn w) 4), made') := by
  obtain ⟨s, hs, e⟩ := lp_up (fun q j (s : Int32 × Int32 × (Nat → Int32)) => im_X4_bestMask_L6 (nI 2) (nI 8) (nI 16) (nI 144) (nI 1) 0 (nI 1) (nI 6) (Gi 0#6) 16 144 4 4 4 fw fE fT fM q s.1 s.2.1 j s.2.2) (fun s => some (s.1, s.2.2)) 4
    (fun j s => Bn (pn w) j s.1 s.2.1)
    (fun q s _ => by
      show im_X4_bestMask_L6 (nI 2) (nI 8) (nI 16) (nI 144) (nI 1) 0 (nI 1) (nI 6) (Gi 0#6) 16 144 4 4 4 fw fE fT fM (q + 1) s.1 s.2.1 (nI 4) s.2.2 = _
      rw [im_X4_bestMask_L6, if_pos (by decide)])
    (fun q j s hj hs => by
      obtain ⟨row, r1, r2⟩ := f_draw (k := 2) (mm := j) (key := 0#6) (x1 := nI j) (row := s.2.2) (by omega) hst hw (fun _ => ⟨rfl, hj⟩)
      have hst2 := Bn.step hs hj (fun i hi => by have := pn_b w (show i < 4 by omega); omega)
      refine ⟨(if s.1 = -1 then nI j else if s.2.1 ≤ nI (pn w j) then s.1 else nI j, if s.1 = -1 then nI (pn w j) else if s.2.1 ≤ nI (pn w j) then s.2.1 else nI (pn w j), row), hst2, ?_⟩
      show im_X4_bestMask_L6 (nI 2) (nI 8) (nI 16) (nI 144) (nI 1) 0 (nI 1) (nI 6) (Gi 0#6) 16 144 4 4 4 fw fE fT fM (q + 1) s.1 s.2.1 (nI j) s.2.2 = im_X4_bestMask_L6 (nI 2) (nI 8) (nI 16) (nI 144) (nI 1) 0 (nI 1) (nI 6) (Gi 0#6) 16 144 4 4 4 fw fE fT fM q (if s.1 = -1 then nI j else if s.2.1 ≤ nI (pn w j) then s.1 else nI j) (if s.1 = -1 then nI (pn w j) else if s.2.1 ≤ nI (pn w j) then s.2.1 else nI (pn w j)) (nI (j + 1)) row
      rw [im_X4_bestMask_L6, if_neg (show ¬ (4 : Int32) ≤ nI j from nI_ge (b := 4) hj (by omega)), ev_j3, ev_j2]
      rw [show im_X2_draw (nI j) (nI 2) (nI 8) (nI 16) (nI 144) (nI 1) 0 (nI 1) (nI 6) (Gi 0#6) 16 144 4 4 4 fw s.2.2 fE fT fM = some row from r1, ev_b1, pn_f hj r2, ev_b1]
      by_cases m : s.1 = -1
      · rw [if_pos m, if_pos m, if_pos m]
        show im_lt _ _ = _
        rw [ev_lt, nI_1]
      · by_cases z : s.2.1 ≤ nI (pn w j)
        · rw [if_neg m, if_neg m, if_neg m, if_pos z, if_pos z, if_pos z]
          show im_lt _ _ = _
          rw [ev_lt, nI_1]
        · rw [if_neg m, if_neg m, if_neg m, if_neg z, if_neg z, if_neg z]
          show im_lt _ _ = _
          rw [ev_lt, nI_1]) 4 0 (-1, 0, made) 5000 (by omega) (by omega) (by show Bn (pn w) 0 (-1) 0; rw [Bn, if_pos rfl])
  rw [Bn, if_neg (by omega)] at hs
  refine ⟨s.2.2, ?_⟩
  rw [im_X4_bestMask, ← hs.1]
  exact e
theorem g_draw {w : Nat → Gf} {fw row sq : Nat → Int32} {m0 : Int32} (hw : Rp 16 fw w) :
    ∃ row' sq', im_X5_draw (nI 2) (nI 16) m0 144 144 22 row sq fw = some (nI (bs (pn w) 4), row', sq') ∧ Ly 100 (pl 2) (dv 2 (bs (pn w) 4) 0#6 w) (fr 2) 144 row' := by
  obtain ⟨s, ⟨h1, _⟩, e⟩ := lp_up (fun q j (s : Int32 × Int32 × (Nat → Int32)) => fun K => im_X5_draw_L7 K (nI 2) (nI 16) 144 22 fw q s.1 s.2.1 j s.2.2) (fun s => fun K => K s.1 s.2.2) 4
    (fun j s => Bs (pn w) 100000 j s.1 s.2.1)
    (fun q s _ => by
      funext K
      rw [im_X5_draw_L7, if_pos (by decide)])
    (fun q j s hj hs => by
      obtain ⟨row, r1, r2⟩ := g_paint (mm := j) (sq := s.2.2) hj hw
      have hst2 := hs.step (fun i hi => by have := pn_b w (show i < 4 by omega); omega) (nI_lt (b := 100000) (pn_b w (by omega)) (by omega))
      refine ⟨(if s.2.1 ≤ nI (pn w j) then s.1 else nI j, if s.2.1 ≤ nI (pn w j) then s.2.1 else nI (pn w j), row), hst2, ?_⟩
      funext K
      rw [im_X5_draw_L7, if_neg (show ¬ (4 : Int32) ≤ nI j from nI_ge (b := 4) hj (by omega)), ev_j3, r1, ev_b1, pn_g hj r2, ev_b1]
      by_cases z : s.2.1 ≤ nI (pn w j)
      · rw [if_pos z]
        show im_j2 _ _ = _
        rw [ev_j2, if_pos z]
        show im_lt _ _ = im_X5_draw_L7 K (nI 2) (nI 16) 144 22 fw q (if s.2.1 ≤ nI (pn w j) then s.1 else nI j) (if s.2.1 ≤ nI (pn w j) then s.2.1 else nI (pn w j)) (nI (j + 1)) row
        rw [ev_lt, nI_1, if_pos z, if_pos z]
      · rw [if_neg z]
        show im_j2 _ _ = _
        rw [ev_j2, if_neg z]
        show im_lt _ _ = im_X5_draw_L7 K (nI 2) (nI 16) 144 22 fw q (if s.2.1 ≤ nI (pn w j) then s.1 else nI j) (if s.2.1 ≤ nI (pn w j) then s.2.1 else nI (pn w j)) (nI (j + 1)) row
        rw [ev_lt, nI_1, if_neg z, if_neg z]) 4 0 (0, 100000, sq) 5000 (by omega) (by omega) ⟨rfl, rfl⟩
  have hb := bs_lt (pn w) 4
  obtain ⟨sq2, p1, p2⟩ := g_paint (mm := bs (pn w) 4) (sq := s.2.2) (by omega) hw
  obtain ⟨r, hr, e2⟩ := lp_up (fun q i (r : Nat → Int32) => im_X5_draw_L66 (nI (bs (pn w) 4)) sq2 144 144 q i r) (fun r => some (nI (bs (pn w) 4), r, sq2)) 144
    (fun i r => ∀ j, j < i → r j = sq2 j)
    (fun q s _ => by
      show im_X5_draw_L66 (nI (bs (pn w) 4)) sq2 144 144 (q + 1) (nI 144) s = _
      rw [im_X5_draw_L66, if_pos (by decide)])
    (fun q i r hi hr => ⟨upd r i (sq2 i), fun j hj => by
      by_cases z : j = i
      · subst z; rw [up_s]
      · rw [up_n _ _ z]; exact hr j (by omega), by
      show im_X5_draw_L66 (nI (bs (pn w) 4)) sq2 144 144 (q + 1) (nI i) r = im_X5_draw_L66 (nI (bs (pn w) 4)) sq2 144 144 q (nI (i + 1)) (upd r i (sq2 i))
      rw [im_X5_draw_L66, if_neg (show ¬ (144 : Int32) ≤ nI i from nI_ge (b := 144) hi (by omega)), ev_ld hi (by omega), ev_st hi (by omega), ev_lt, nI_1]⟩) 144 0 row 5000 (by omega) (by omega) (fun j hj => by omega)
  refine ⟨r, sq2, ?_, fun p hp => by rw [hr _ (pl_L (k := 2) (by omega) hp)]; exact p2.1 p hp, fun i hi h => by rw [hr i hi]; exact p2.2 i hi h⟩
  rw [im_X5_draw, ev_j2]
  refine (congrFun e _).trans ?_
  rw [h1, p1, ev_b1]
  exact e2
