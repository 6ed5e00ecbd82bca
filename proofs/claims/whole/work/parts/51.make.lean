theorem cmp_0 (x y : Int64) : lg_cmp x y = 0 ↔ x = y := by
  unfold lg_cmp
  by_cases z : x > y
  · rw [if_pos z]
    exact ⟨fun q => absurd q (by decide), fun q => by rw [q] at z; exact (Int64.lt_irrefl z).elim⟩
  · rw [if_neg z]
    by_cases y' : x = y
    · rw [if_pos y']; exact ⟨fun _ => y', fun _ => rfl⟩
    · rw [if_neg y']; exact ⟨fun q => absurd q (by decide), fun q => absurd q y'⟩
theorem lN_ne (V : Nat) (h : V < 2 ^ 63) : lN V ≠ -1 := by
  intro q
  have h1 := pk_lT h
  rw [q] at h1
  have h2 : (-1 : Int64).toInt = -1 := by decide
  omega
/-! what the two sides' states have to do with each other -/
def RG (k : Nat) (gv : Nat → Int64) (hs : Nat → Int32) (vl : Nat → Int64) : Prop := ∀ f, f < kF k → (hs f = 0 ∧ gv f = -1) ∨ (hs f = 1 ∧ gv f = vl f ∧ ∃ V, V < 2 ^ 63 ∧ gv f = lN V)
def RM (k : Nat) (a sz : Int32) (md rw : Nat → Int32) : Prop := (a = 0 ∧ sz = 0) ∨ (a = 1 ∧ sz = nI (kL k) ∧ ∀ i, i < kL k → md i = rw i)
def RS (k : Nat) (c m : Int32) (sn sr : Nat → Int32) : Prop := ∃ c0, c0 ≤ 200 ∧ c = nI c0 ∧ m = nI c0 ∧ ∀ i, i < c0 → sn i = sr i ∧ (sr i = -1 ∨ ∃ x, x ≤ kH k ∧ sr i = nI x)
def RT (k : Nat) (rt : Int32) (td rd : Nat → Int64) : Prop := (rt = 0 ∧ ∀ f, f < kF k → td f = -1) ∨ (rt = 1 ∧ ∀ f, f < kF k → td f = rd f)
def RQ (k : Nat) (lm mk : Int32) : Prop := lm = mk ∧ (k ≠ 2 → lm = -1)
def RU (a b : Int32) : Prop := a = b ∧ (a = 0 ∨ a = 1)
def Wd (k : Nat) (fw : Nat → Int32) : Prop := ∀ f, f < kF k → fw f = nI (6 * km k f)
theorem kRm : ∀ k, k < 4 → kR k ∈ [2, 4, 6, 8] := by decide
theorem gone_c (n a : Nat) (h : a ≤ n) : gf_c n (fun i => decide (a ≤ i)) = n - a := by
  have : ∀ d, gf_c (a + d) (fun i => decide (a ≤ i)) = d := by
    intro d
    induction d with
    | zero =>
      rw [Nat.add_zero, gf_c_congr (q := fun _ => false) (fun i hi => decide_eq_false (by omega)), gf_c_0]
    | succ d ih => rw [← Nat.add_assoc, gf_c, ih, if_pos (by simp)]
  have := this (n - a)
  rwa [show a + (n - a) = n by omega] at this
theorem op_make {k : Nat} {key : Gf} {fm a lm mk sz th : Int32} {fgen md wd fE fT fM fwd fb fg hs fl fp rw_ sq fw : Nat → Int32} {gv vl : Nat → Int64}
    (hk : k < 4) (hst : St fE fT fM) (hgen : Rp (kR k + 1) fgen (Gc (kR k))) (hwd : Wd k fwd) (hfb : Wd k fb) (hK : Ky k fm key) (hG : RG k gv hs vl) (hM : RM k a sz md rw_) (hQ : RQ k lm mk) :
    ∃ (ans a' lm' mk' sz' : Int32) (md' wd' fg' fl' fp' rw' sq' fw' : Nat → Int32),
      im_X4_make a lm (nI (kn k)) (nI (kR k)) (nI k) (nI (kR k)) (nI (kn k)) (nI (kL k)) (nI (kH k)) (kh k) (nI (kB k)) (nI (kS k)) (Gi key) (kR k + 1) (kF k) (kL k) (kn k) 4 4 4 (kF k) fgen gv md wd fE fT fM fwd = some (ans, a', lm', md', wd') ∧
      im_X5_make th (nI k) fm (nI (kF k)) (nI (kR k)) (nI (kn k)) sz mk 4 22 4 72 8 144 144 4 22 fb fg hs fl fp rw_ sq vl fw = some (ans, mk', sz', 0, fg', fl', fp', rw', sq', fw') ∧ RM k a' sz' md' rw' ∧ RQ k lm' mk' := by
  obtain ⟨b1, b2, b3, b4, b5, b6, b7, b8, b9, b10, b11, b12, b13, b14, b15⟩ := kp k hk
  -- is all given?
  have hcls : ∀ (K1 : Option (Int32 × Int32 × Int32 × (Nat → Int32) × (Nat → Int32))) (d f q : Nat), f + d = kF k → d < q → im_X4_make_L2 (kF k) K1 gv a lm md wd q (nI f) = if (∀ g, g < kF k → f ≤ g → gv g ≠ -1) then K1 else some (-1, a, lm, md, wd) := by
    intro K1 d
    induction d with
    | zero =>
      intro f q hf hq
      obtain ⟨q, rfl⟩ : ∃ g, q = g + 1 := ⟨q - 1, by omega⟩
      rw [im_X4_make_L2, if_pos (nI_le (by omega) (by omega)), if_pos (fun g h1 h2 => by omega)]
    | succ d ih =>
      intro f q hf hq
      obtain ⟨q, rfl⟩ : ∃ g, q = g + 1 := ⟨q - 1, by omega⟩
      rw [im_X4_make_L2, if_neg (nI_ge (by omega) (by omega)), ev_ld (by omega) (by omega), ev_lt, ev_lt, nI_1, ih (f + 1) q (by omega) (by omega)]
      by_cases z : gv f = -1
      · rw [if_pos ((cmp_0 _ _).2 z), if_neg (fun h => h f (by omega) (Nat.le_refl _) z)]
      · rw [if_neg (fun y => z ((cmp_0 _ _).1 y))]
        by_cases y : ∀ g, g < kF k → f + 1 ≤ g → gv g ≠ -1
        · rw [if_pos y, if_pos (fun g h1 h2 => by
            by_cases x : g = f
            · rw [x]; exact z
            · exact y g h1 (by omega))]
        · rw [if_neg y, if_neg (fun h => y (fun g h1 h2 => h g h1 (by omega)))]
  have href : ∀ (d f q : Nat) (v : Bool), f + d = kF k → d < q → im_X5_isWhole_L4 (nI (kF k)) 4 hs q (ob v) (nI f) = some (ob (v && decide (∀ g, g < kF k → f ≤ g → gv g ≠ -1))) := by
    intro d
    induction d with
    | zero =>
      intro f q v hf hq
      obtain ⟨q, rfl⟩ : ∃ g, q = g + 1 := ⟨q - 1, by omega⟩
      rw [im_X5_isWhole_L4, if_pos (nI_le (by omega) (by omega)), ev_as (by cases v <;> decide), decide_eq_true (fun g h1 h2 => by omega), Bool.and_true]
    | succ d ih =>
      intro f q v hf hq
      obtain ⟨q, rfl⟩ : ∃ g, q = g + 1 := ⟨q - 1, by omega⟩
      have hstep : (decide (∀ g, g < kF k → f ≤ g → gv g ≠ -1)) = (decide (gv f ≠ -1) && decide (∀ g, g < kF k → f + 1 ≤ g → gv g ≠ -1)) := by
        rw [Bool.eq_iff_iff, Bool.and_eq_true, decide_eq_true_iff, decide_eq_true_iff, decide_eq_true_iff]
        exact ⟨fun h => ⟨h f (by omega) (Nat.le_refl _), fun g h1 h2 => h g h1 (by omega)⟩, fun h g h1 h2 => by
          by_cases x : g = f
          · rw [x]; exact h.1
          · exact h.2 g h1 (by omega)⟩
      rw [im_X5_isWhole_L4, if_neg (nI_ge (by omega) (by omega)), ev_j1, ev_j0]
      simp only [ev_lt]
      rw [nI_1, hstep]
      have i0 := ih (f + 1) q false (by omega) (by omega)
      have i1 := ih (f + 1) q true (by omega) (by omega)
      rw [Bool.false_and] at i0
      rw [Bool.true_and] at i1
      cases v with
      | false => rw [if_pos (show ob false = 0 from rfl), Bool.false_and]; exact i0
      | true =>
        rw [if_neg (by decide), ev_ld (by omega) (by omega), Bool.true_and]
        rcases hG f (by omega) with ⟨h1, h2⟩ | ⟨h1, _, V, h2, h3⟩
        · rw [if_pos h1, decide_eq_false (fun h => h h2), Bool.false_and]; exact i0
        · rw [if_neg (by rw [h1]; decide), decide_eq_true (show gv f ≠ -1 by rw [h3]; exact lN_ne V h2), Bool.true_and]; exact i1
  have hwh : im_X5_isWhole (nI (kF k)) 4 hs = some (ob (decide (∀ g, g < kF k → 0 ≤ g → gv g ≠ -1))) := by
    rw [im_X5_isWhole]
    exact (href (kF k) 0 5000 true (by omega) (by omega)).trans (by rw [Bool.true_and])
  by_cases hall : ∀ g, g < kF k → 0 ≤ g → gv g ≠ -1
  · have hv : ∀ f, f < kF k → gv f = lN ((gv f).toBitVec.toNat) ∧ (gv f).toBitVec.toNat < 2 ^ 63 ∧ vl f = gv f := by
      intro f hf
      rcases hG f hf with ⟨h1, h2⟩ | ⟨h1, h4, V, h2, h3⟩
      · exact absurd h2 (hall f hf (Nat.zero_le _))
      · have : (gv f).toBitVec.toNat = V := by
          rw [h3]
          show (BitVec.ofNat 64 V).toNat = V
          rw [BitVec.toNat_ofNat]
          exact Nat.mod_eq_of_lt (by omega)
        rw [this]
        exact ⟨h3, h2, h4.symm⟩
    obtain ⟨w1, p1, p2⟩ := f_put (F := kF k) (k := kn k - kR k) (N := kn k) (fv := gv) (fw := wd) (fwd := fwd) (V := fun f => (gv f).toBitVec.toNat) (m := km k) (fun f hf => ⟨(hv f hf).1, (hv f hf).2.1⟩) hwd (fun f hf => km6 k hk f hf) b8 (by omega) (by omega) (by omega)
    obtain ⟨w2, z, q1, q2, q3, q4⟩ := f_comp (n := kn k) (R := kR k) (N := kn k) (G := Gc (kR k)) b1 b3 p2 hgen (Gc_top _ (kRm k hk)) (Gc_root _ (kRm k hk)) (Nat.le_refl _) (by omega)
    obtain ⟨g1, w3, r1, r2, r3⟩ := g_pack (F := kF k) (k := kn k - kR k) (n := kn k) (R := kR k) (fv := vl) (fg := fg) (fw := fw) (fb := fb) (V := fun f => (gv f).toBitVec.toNat) (m := km k) (fun f hf => ⟨(hv f hf).2.2.trans (hv f hf).1, (hv f hf).2.1⟩) hfb (fun f hf => km6 k hk f hf) b8 (by omega) (by omega) (by omega)
    obtain ⟨r, l', pl', w4, s1, _, s3, _⟩ := g_mend (fl := fl) (fp := fp) (by omega) b2 b3 r3 r2
    have hnr : Nr (kn k) (kR k) (fun i => if i < kn k - kR k then pkw (fun f => (gv f).toBitVec.toNat) (km k) (kF k) i else 0#6) (fun i => decide (kn k - kR k ≤ i)) z := by
      refine ⟨q3, ?_⟩
      have h0 : wr (kn k) (fun i => if i < kn k - kR k then pkw (fun f => (gv f).toBitVec.toNat) (km k) (kF k) i else 0#6) (fun i => decide (kn k - kR k ≤ i)) z = 0 := by
        rw [wr, gf_c_congr (q := fun _ => false), gf_c_0]
        intro i hi
        by_cases y : kn k - kR k ≤ i
        · rw [decide_eq_true y]; rfl
        · rw [if_pos (by omega), q4 i (by omega), gf_xs]; simp
      rw [h0, gone_c _ _ (by omega)]
      omega
    have hw4 := (s3 z hnr).2
    by_cases z2 : k = 2
    · subst z2
      have hkey := hK.2 (by omega)
      subst hkey
      have hb := bs_lt (pn z) 4
      obtain ⟨m1, t1⟩ := f_best (made := md) hst q2
      obtain ⟨m2, t2, t3⟩ := f_draw (k := 2) (mm := bs (pn z) 4) (key := 0#6) (x1 := nI (bs (pn z) 4)) (row := m1) (by omega) hst q2 (fun _ => ⟨rfl, by omega⟩)
      obtain ⟨rw2, sq2, t4, t5⟩ := g_draw (row := rw_) (sq := sq) (m0 := mk) hw4
      refine ⟨nI (kL 2), 1, nI (bs (pn z) 4), nI (bs (pn z) 4), nI (kL 2), m2, w2, g1, l', pl', rw2, sq2, w4, ?_, ?_, Or.inr ⟨rfl, rfl, Ly.one t3 t5⟩, rfl, fun h => absurd rfl h⟩
      · rw [im_X4_make, ev_j0]
        refine (hcls _ (kF 2) 0 5000 (by omega) (by omega)).trans ?_
        rw [if_pos hall, ev_j3, p1, ev_b1, q1, ev_b1, if_pos (by decide)]
        show im_b2 (im_X4_bestMask (nI 2) (nI 8) (nI 16) (nI 144) (nI 1) 0 (nI 1) (nI 6) (Gi 0#6) 144 16 4 4 4 md w2 fE fT fM) _ = _
        rw [t1, ev_b2]
        show im_b1 (im_X2_draw _ _ _ _ _ _ _ _ _ _ _ _ _ _ _ _ _ _ _ _) _ = _
        rw [t2, ev_b1]
      · rw [im_X5_make, hwh, decide_eq_true hall, ev_b1, if_neg (by decide), r1, ev_b2, s1, ev_b4, len_g 2 hk, ev_b1, if_pos (by decide)]
        show im_b3 (im_X5_draw (nI 2) (nI 16) mk 144 144 22 rw_ sq w4) _ = _
        rw [t4, ev_b3]
    · obtain ⟨m2, t2, t3⟩ := f_draw (k := k) (mm := 0) (key := key) (x1 := lm) (row := md) hk hst q2 (fun y => absurd y z2)
      obtain ⟨rw2, t4, t5⟩ := g_row (row := rw_) 0 hk z2 hK hw4
      refine ⟨nI (kL k), 1, lm, mk, nI (kL k), m2, w2, g1, l', pl', rw2, sq, w4, ?_, ?_, Or.inr ⟨rfl, rfl, Ly.one t3 t5⟩, hQ⟩
      · rw [im_X4_make, ev_j0]
        refine (hcls _ (kF k) 0 5000 (by omega) (by omega)).trans ?_
        rw [if_pos hall, ev_j3, p1, ev_b1, q1, ev_b1, if_neg (fun y => z2 ((k_2 hk).1 y))]
        show im_b1 (im_X2_draw _ _ _ _ _ _ _ _ _ _ _ _ _ _ _ _ _ _ _ _) _ = _
        rw [t2, ev_b1]
      · rw [im_X5_make, hwh, decide_eq_true hall, ev_b1, if_neg (by decide), r1, ev_b2, s1, ev_b4, len_g k hk, ev_b1, if_neg (fun y => z2 ((k_2 hk).1 y)), ev_j1, t4]
  · refine ⟨-1, a, lm, mk, sz, md, wd, fg, fl, fp, rw_, sq, fw, ?_, ?_, hM, hQ⟩
    · rw [im_X4_make, ev_j0]
      refine (hcls _ (kF k) 0 5000 (by omega) (by omega)).trans ?_
      rw [if_neg hall]
    · rw [im_X5_make, hwh, decide_eq_false hall, ev_b1, if_pos (by decide)]
