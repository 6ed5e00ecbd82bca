/-! the four kinds: 0 short, 1 long, 2 square, 3 tag -/
def kn (k : Nat) : Nat := match k with | 0 => 12 | 1 => 22 | 2 => 16 | _ => 5
def kR (k : Nat) : Nat := match k with | 0 => 4 | 1 => 6 | 2 => 8 | _ => 2
def kL (k : Nat) : Nat := match k with | 0 => 40 | 1 => 70 | 2 => 144 | _ => 34
def kH (k : Nat) : Nat := match k with | 0 => 3 | 1 => 3 | 2 => 1 | _ => 1
def kB (k : Nat) : Nat := match k with | 0 => 2 | 1 => 2 | 2 => 1 | _ => 1
def kS (k : Nat) : Nat := match k with | 0 => 3 | 1 => 3 | 2 => 6 | _ => 6
def kF (k : Nat) : Nat := match k with | 0 => 3 | 1 => 4 | 2 => 2 | _ => 1
def kh (k : Nat) : Int32 := match k with | 0 => 1 | 1 => 1 | 2 => 0 | _ => 0
def km (k f : Nat) : Nat := match k with
  | 0 => (match f with | 0 => 1 | 1 => 4 | _ => 3)
  | 1 => (match f with | 0 => 1 | 1 => 4 | 2 => 5 | _ => 6)
  | 2 => (match f with | 0 => 2 | _ => 6)
  | _ => 3
def kN (k : Nat) : Nat := if k = 2 then 100 else kn k * kS k
theorem kp : ∀ k, k < 4 → 0 < kR k ∧ kR k ≤ 8 ∧ kR k ≤ kn k ∧ kn k ≤ 22 ∧ 0 < kS k ∧ kS k ≤ 6 ∧ kL k ≤ 144 ∧ kF k ≤ 4 ∧ 0 < kF k ∧ kn k * kS k ≤ kN k ∧ kn k * kS k ≤ 96 ∧ ofs (km k) (kF k) + kR k = kn k ∧ (k ≠ 2 → kn k * kS k + 4 = kL k) ∧ (k = 0 ∨ k = 1 ∨ k = 3 → kN k = kn k * kS k) ∧ kN k ≤ 100 := by decide +kernel
theorem km6 : ∀ k, k < 4 → ∀ f, f < kF k → km k f ≤ 6 := by decide +kernel
def tE (i : Nat) : Int32 := match i with | 0 => 1 | 1 => 3 | 2 => 0 | _ => 1
def tT (i : Nat) : Int32 := match i with | 0 => 1 | 1 => 0 | 2 => 1 | _ => 1
def tM (i : Nat) : Int32 := match i with | 0 => 0 | 1 => 7 | 2 => 11 | _ => 12
def St (fE fT fM : Nat → Int32) : Prop := (∀ i, i < 4 → fE i = tE i) ∧ (∀ i, i < 4 → fT i = tT i) ∧ ∀ i, i < 4 → fM i = tM i
theorem ld_congr {α β : Type} {n : Nat} {f g : Nat → α} (h : ∀ i, i < n → f i = g i) : @im_ld α β n f = im_ld n g := by
  funext i k
  unfold im_ld
  split
  · rfl
  · rename_i hi
    rw [h _ (Nat.lt_of_not_le (fun q => hi (Or.inr q)))]
/-! the frame -/
def fr (k i : Nat) : Int32 := (im_X5_frame (nI i) (nI k) (nI (kn k))).getD 0
theorem fr_g : ∀ k, k < 4 → ∀ i, i < kL k → im_X5_frame (nI i) (nI k) (nI (kn k)) = some (fr k i) := by decide +kernel
theorem fr_f0 : ∀ k, k < 4 → ∀ i, i < kL k → im_X2_frameAt (nI i) (nI k) (nI (kL k)) (kh k) 4 4 tE tT = some (fr k i) := by decide +kernel
theorem fr_f {fE fT fM : Nat → Int32} (hst : St fE fT fM) {k i : Nat} (hk : k < 4) (hi : i < kL k) : im_X2_frameAt (nI i) (nI k) (nI (kL k)) (kh k) 4 4 fE fT = some (fr k i) := by
  rw [← fr_f0 k hk i hi]
  unfold im_X2_frameAt
  rw [ld_congr hst.1, ld_congr hst.2.1]
theorem fr_mid : ∀ k, k < 4 → k ≠ 2 → ∀ p, p < kn k * kS k → fr k (2 + p) = -1 := by decide +kernel
theorem fr_end : ∀ k, k < 4 → k ≠ 2 → ∀ i, i < kL k → i < 2 ∨ kL k ≤ i + 2 → fr k i ≠ -1 := by decide +kernel
/-! the places of the parts -/
def pl (k p : Nat) : Nat := if k = 2 then (1 + p / 10) * 12 + 1 + p % 10 else 2 + p
theorem pl_inj2 {k a b : Nat} (h : pl k a = pl k b) : a = b := by
  unfold pl at h
  split at h <;> omega
theorem pl_L {k p : Nat} (hk : k < 4) (hp : p < kN k) : pl k p < kL k := by
  have := kp k hk
  unfold kN at hp
  by_cases z : k = 2
  · subst z
    rw [if_pos rfl] at hp
    rw [pl, if_pos rfl]
    show _ < 144
    omega
  · rw [if_neg z] at hp
    rw [pl, if_neg z]
    have := this.2.2.2.2.2.2.2.2.2.2.2.2.1 z
    omega
theorem pl_sq : ∀ p, p < 100 → im_X3_placeOf (nI p) = some (nI (pl 2 p)) ∧ im_X5_cell (nI p) = some (nI (pl 2 p)) := by decide +kernel
theorem k_2 {k : Nat} (hk : k < 4) : nI k = 2 ↔ k = 2 := nI_eq (b := 2) (by omega) (by omega)
theorem k_3 {k : Nat} (hk : k < 4) : nI k = 3 ↔ k = 3 := nI_eq (b := 3) (by omega) (by omega)
theorem pl_f {k p : Nat} (hk : k < 4) (hp : p < 100) : im_X2_placeOf (nI p) (nI k) = some (nI (pl k p)) := by
  unfold im_X2_placeOf
  by_cases z : k = 2
  · subst z; rw [if_pos (by decide), (pl_sq p hp).1]; rfl
  · rw [if_neg (fun q => z ((k_2 hk).1 q)), ev_lt, show (2 : Int32) = nI 2 from rfl, nI_add, pl, if_neg z]
def tu (k mm i : Nat) : Int32 := if k = 2 then (im_X3_isTurned (nI i) (nI mm)).getD 0 else 0
theorem tu_sq : ∀ mm, mm < 4 → ∀ i, i < 144 → im_X2_turnAt (nI i) (nI mm) (nI 2) = some (tu 2 mm i) ∧ im_X5_isMasked (nI mm) (nI (i % 12)) (nI (i / 12)) = some (tu 2 mm i) ∧ (tu 2 mm i = 0 ∨ tu 2 mm i = 1) := by decide +kernel
theorem tu_f {k mm i : Nat} {x1 : Int32} (hk : k < 4) (hx : k = 2 → x1 = nI mm ∧ mm < 4) (hi : i < kL k) : im_X2_turnAt (nI i) x1 (nI k) = some (tu k mm i) := by
  by_cases z : k = 2
  · subst z; rw [(hx rfl).1]; exact (tu_sq mm (hx rfl).2 i hi).1
  · unfold im_X2_turnAt
    rw [ev_j0, if_neg (fun q => z ((k_2 hk).1 q)), tu, if_neg z]
def ky (k : Nat) (key : Gf) (s : Nat) : Gf := if s < kn k - kR k then 0#6 else key
theorem ky_f {k s : Nat} (hk : k < 4) (hs : s < kn k) (key : Gf) : im_X2_keyOf (nI s) (nI (kR k)) (nI (kn k)) (Gi key) = some (Gi (ky k key s)) := by
  have := kp k hk
  unfold im_X2_keyOf
  rw [pk_sub (by omega), ev_lt, ky]
  by_cases z : s < kn k - kR k
  · rw [if_neg (nI_ge z (by omega)), if_pos z]; rfl
  · rw [if_pos (nI_le (by omega) (by omega)), if_neg z]
def pv (k : Nat) (x : Gf) (q : Nat) : Int32 := nI (x.toNat / 2 ^ (6 - (q + 1) * kB k) % 2 ^ kB k)
theorem pv_f0 : ∀ k, k < 4 → ∀ q, q < kS k → ∀ x : Fin 64, (nI x >>> ((6 - (nI q + 1) * nI (kB k)) &&& 31)) &&& nI (kH k) = pv k (BitVec.ofFin x) q := by decide +kernel
theorem pv_f {k q : Nat} (hk : k < 4) (hq : q < kS k) (x : Gf) : (Gi x >>> ((6 - (nI q + 1) * nI (kB k)) &&& 31)) &&& nI (kH k) = pv k x q := pv_f0 k hk q hq x.toFin
def sg (mm j : Nat) : Int32 := (im_X5_maskBit (nI mm) (nI j)).getD 0
theorem sg_ok : ∀ mm, mm < 4 → ∀ j, j < 4 → im_X5_maskBit (nI mm) (nI j) = some (sg mm j) ∧ im_X3_signBit (nI mm) (nI j) 4 tM = some (sg mm j) ∧ (sg mm j = 0 ∨ sg mm j = 1) := by decide +kernel
theorem sg_f {fE fT fM : Nat → Int32} (hst : St fE fT fM) {mm j : Nat} (hm : mm < 4) (hj : j < 4) : im_X3_signBit (nI mm) (nI j) 4 fM = some (sg mm j) := by
  rw [← (sg_ok mm hm j hj).2.1]
  unfold im_X3_signBit
  rw [ld_congr hst.2.2]
/-! a row laid -/
def Ly (N : Nat) (P : Nat → Nat) (val fr : Nat → Int32) (L : Nat) (row : Nat → Int32) : Prop := (∀ p, p < N → row (P p) = val p) ∧ ∀ i, i < L → (∀ p, p < N → P p ≠ i) → row i = fr i
theorem Ly.one {N : Nat} {P : Nat → Nat} {val fr : Nat → Int32} {L : Nat} {a b : Nat → Int32} (ha : Ly N P val fr L a) (hb : Ly N P val fr L b) : ∀ i, i < L → a i = b i := by
  intro i hi
  by_cases z : ∃ p, p < N ∧ P p = i
  · obtain ⟨p, p1, p2⟩ := z
    rw [← p2, ha.1 p p1, hb.1 p p1]
  · have h : ∀ p, p < N → P p ≠ i := fun p hp q => z ⟨p, hp, q⟩
    rw [ha.2 i hi h, hb.2 i hi h]
theorem Ly.step {N : Nat} {P : Nat → Nat} {val fr : Nat → Int32} {L : Nat} {a : Nat → Int32} (ha : Ly N P val fr L a) (hinj : ∀ p, p < N → P p ≠ P N) {x : Int32} (hx : x = val N) : Ly (N + 1) P val fr L (upd a (P N) x) := by
  refine ⟨fun p hp => ?_, fun i hi h => ?_⟩
  · by_cases z : p = N
    · subst z; rw [up_s, hx]
    · rw [up_n _ _ (hinj p (by omega))]; exact ha.1 p (by omega)
  · rw [up_n _ _ (fun q => h N (by omega) q.symm)]
    exact ha.2 i hi (fun p hp => h p (by omega))
def dv (k mm : Nat) (key : Gf) (w : Nat → Gf) (p : Nat) : Int32 := if p < kn k * kS k then pv k (w (p / kS k) ^^^ ky k key (p / kS k)) (p % kS k) ^^^ tu k mm (pl k p) else sg mm (p - 96)
/-- the class's drawing -/
theorem f_draw {k mm : Nat} {key : Gf} {w : Nat → Gf} {fw row fE fT fM : Nat → Int32} {x1 : Int32} (hk : k < 4) (hst : St fE fT fM) (hw : Rp (kn k) fw w) (hx : k = 2 → x1 = nI mm ∧ mm < 4) :
    ∃ row', im_X2_draw x1 (nI k) (nI (kR k)) (nI (kn k)) (nI (kL k)) (nI (kH k)) (kh k) (nI (kB k)) (nI (kS k)) (Gi key) (kn k) (kL k) 4 4 4 fw row fE fT fM = some row' ∧ Ly (kN k) (pl k) (dv k mm key w) (fr k) (kL k) row' := by
  obtain ⟨b1, b2, b3, b4, b5, b6, b7, b8, b9, b10, b11, b12, b13, b14, b15⟩ := kp k hk
  -- the frame
  obtain ⟨r1, hr1, e1⟩ := lp_up (fun q i (s : Nat → Int32) => fun K => im_X2_draw_L3 (nI (kL k)) K (nI k) (kh k) 4 4 fE fT (kL k) q i s) (fun s => fun K => K s) (kL k)
    (fun i s => ∀ j, j < i → s j = fr k j)
    (fun q s _ => by
      funext K
      rw [im_X2_draw_L3, if_pos (nI_le (Nat.le_refl _) (by omega))])
    (fun q i s hi hs => ⟨upd s i (fr k i), fun j hj => by
      by_cases z : j = i
      · subst z; rw [up_s]
      · rw [up_n _ _ z]; exact hs j (by omega), by
      funext K
      rw [im_X2_draw_L3, if_neg (nI_ge hi (by omega)), fr_f hst hk hi, ev_b1, ev_st hi (by omega), ev_lt, nI_1]⟩) (kL k) 0 row 5000 (by omega) (by omega) (fun j hj => by omega)
  -- the symbols
  obtain ⟨r2, hr2, e2⟩ := lp_up (fun q s (r : Nat → Int32) => fun K => im_X2_draw_L31 (nI (kn k)) K (kn k) fw (nI (kR k)) (Gi key) (nI (kS k)) (nI k) (nI (kB k)) (nI (kH k)) x1 (kL k) q s r) (fun s => fun K => K s) (kn k)
    (fun s r => Ly (s * kS k) (pl k) (dv k mm key w) (fr k) (kL k) r)
    (fun q s _ => by
      funext K
      rw [im_X2_draw_L31, if_pos (nI_le (Nat.le_refl _) (by omega))])
    (fun q s r hs hr => by
      have hms : s * kS k + kS k ≤ kn k * kS k := by
        rw [← Nat.succ_mul]; exact Nat.mul_le_mul_right _ hs
      obtain ⟨r', hr', e'⟩ := lp_up (fun q p (r : Nat → Int32) => fun K => im_X2_draw_L56 (nI (kS k)) K (nI s) (nI k) (nI (kB k)) (Gi (w s ^^^ ky k key s)) (nI (kH k)) x1 (kL k) q p r) (fun s => fun K => K s) (kS k)
        (fun p r => Ly (s * kS k + p) (pl k) (dv k mm key w) (fr k) (kL k) r)
        (fun q s _ => by
          funext K
          rw [im_X2_draw_L56, if_pos (nI_le (Nat.le_refl _) (by omega))])
        (fun q p r hp hr => by
          have hdiv : (s * kS k + p) / kS k = s := by
            rw [Nat.mul_comm, Nat.mul_add_div b5, Nat.div_eq_of_lt hp]; omega
          have hmod : (s * kS k + p) % kS k = p := by
            rw [Nat.mul_comm, Nat.mul_add_mod, Nat.mod_eq_of_lt hp]
          have hL : pl k (s * kS k + p) < kL k := pl_L hk (by omega)
          refine ⟨upd r (pl k (s * kS k + p)) (pv k (w s ^^^ ky k key s) p ^^^ tu k mm (pl k (s * kS k + p))), hr.step (fun p' hp' q => by have := pl_inj2 q; omega) (by rw [dv, if_pos (by omega), hdiv, hmod]), ?_⟩
          funext K
          rw [im_X2_draw_L56, if_neg (nI_ge hp (by omega))]
          simp only [ev_lt]
          rw [pk_mul (s) , nI_add, pl_f hk (by omega), ev_b1]
          show im_b1 (im_X2_turnAt _ _ _) _ = _
          rw [pv_f hk hp, tu_f hk hx hL, ev_b1]
          show im_st _ _ _ _ _ = _
          rw [ev_st hL (by omega), nI_1]) (kS k) 0 r 5000 (by omega) (by omega) hr
      refine ⟨r', by rw [Nat.succ_mul]; exact hr', ?_⟩
      funext K
      rw [im_X2_draw_L31, if_neg (nI_ge hs (by omega)), ev_ld hs (by omega), hw s hs, ky_f hk hs, ev_b1, ev_lt, Gi_xor, ev_j1]
      refine (congrFun e' _).trans ?_
      rw [ev_lt, nI_1]) (kn k) 0 r1 5000 (by omega) (by omega) ⟨fun p hp => by omega, fun i hi _ => hr1 i hi⟩
  by_cases z : k = 2
  · obtain ⟨hx1, hmm⟩ := hx z
    subst z
    obtain ⟨r3, hr3, e3⟩ := lp_up (fun q j (r : Nat → Int32) => im_X3_drawMask_L2 x1 4 fM 144 q j r) (fun s => some s) 4
      (fun j r => Ly (96 + j) (pl 2) (dv 2 mm key w) (fr 2) (kL 2) r)
      (fun q s _ => by
        show im_X3_drawMask_L2 x1 4 fM 144 (q + 1) (nI 4) s = _
        rw [im_X3_drawMask_L2, if_pos (by decide)])
      (fun q j r hj hr => by
        have hL : pl 2 (96 + j) < 144 := pl_L (k := 2) (by omega) (by show 96 + j < 100; omega)
        refine ⟨upd r (pl 2 (96 + j)) (sg mm j), hr.step (fun p' hp' q => by have := pl_inj2 q; omega) (by rw [dv, if_neg (by show ¬ 96 + j < 96; omega), Nat.add_sub_cancel_left]), ?_⟩
        show im_X3_drawMask_L2 x1 4 fM 144 (q + 1) (nI j) r = im_X3_drawMask_L2 x1 4 fM 144 q (nI (j + 1)) (upd r (pl 2 (96 + j)) (sg mm j))
        rw [im_X3_drawMask_L2, if_neg (show ¬ (4 : Int32) ≤ nI j from nI_ge (b := 4) hj (by omega)), ev_lt, show (96 : Int32) = nI 96 from rfl, nI_add, (pl_sq (96 + j) (by omega)).1, ev_b1, hx1, sg_f hst hmm hj, ev_b1, ev_st hL (by omega), ev_lt, nI_1]) 4 0 r2 5000 (by omega) (by omega) hr2
    refine ⟨r3, ?_, hr3⟩
    rw [im_X2_draw, ev_j1]
    refine (congrFun e1 _).trans ?_
    rw [ev_j1]
    refine (congrFun e2 _).trans ?_
    rw [if_pos (by decide), im_X3_drawMask]
    show im_b1 (im_X3_drawMask_L2 x1 4 fM 144 5000 (nI 0) r2) _ = _
    rw [e3]
    rfl
  · refine ⟨r2, ?_, by rw [b14 (by omega)]; exact hr2⟩
    rw [im_X2_draw, ev_j1]
    refine (congrFun e1 _).trans ?_
    rw [ev_j1]
    refine (congrFun e2 _).trans ?_
    rw [if_neg (fun q => z ((k_2 hk).1 q))]
