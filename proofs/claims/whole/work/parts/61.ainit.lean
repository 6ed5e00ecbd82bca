theorem ev_b10 {A0 A1 A2 A3 A4 A5 A6 A7 A8 A9 β : Type} (x0 : A0) (x1 : A1) (x2 : A2) (x3 : A3) (x4 : A4) (x5 : A5) (x6 : A6) (x7 : A7) (x8 : A8) (x9 : A9) (k : A0 → A1 → A2 → A3 → A4 → A5 → A6 → A7 → A8 → A9 → Option β) : im_b10 (some (x0, x1, x2, x3, x4, x5, x6, x7, x8, x9)) k = k x0 x1 x2 x3 x4 x5 x6 x7 x8 x9 := rfl
theorem ev_b18 {A0 A1 A2 A3 A4 A5 A6 A7 A8 A9 A10 A11 A12 A13 A14 A15 A16 A17 β : Type} (x0 : A0) (x1 : A1) (x2 : A2) (x3 : A3) (x4 : A4) (x5 : A5) (x6 : A6) (x7 : A7) (x8 : A8) (x9 : A9) (x10 : A10) (x11 : A11) (x12 : A12) (x13 : A13) (x14 : A14) (x15 : A15) (x16 : A16) (x17 : A17) (k : A0 → A1 → A2 → A3 → A4 → A5 → A6 → A7 → A8 → A9 → A10 → A11 → A12 → A13 → A14 → A15 → A16 → A17 → Option β) : im_b18 (some (x0, x1, x2, x3, x4, x5, x6, x7, x8, x9, x10, x11, x12, x13, x14, x15, x16, x17)) k = k x0 x1 x2 x3 x4 x5 x6 x7 x8 x9 x10 x11 x12 x13 x14 x15 x16 x17 := rfl
def tS (i : Nat) : Int32 := match i with | 0 => 6 | 1 => 24 | _ => 18
def tLg (i : Nat) : Int32 := match i with | 0 => 6 | 1 => 24 | 2 => 30 | _ => 36
def tQ (i : Nat) : Int32 := match i with | 0 => 12 | _ => 36
def tTg (i : Nat) : Int32 := match i with | _ => 18
theorem ev_nw {β : Type} {x : Nat} (h : x ≤ 1000) (k : Nat → Option β) : im_nw (nI x) k = k x := by
  unfold im_nw
  rw [if_pos ⟨nI_pos (by omega), by rw [nI_clamp (by omega)]; exact h⟩, nI_clamp (by omega)]
theorem fn_ok (x0 : Int32) : ∃ v, v < 65537 ∧ im_X4_formNumber x0 = some (nI v) ∧ (0 ≤ x0 → x0 - x0 / 65537 * 65537 = nI v) ∧ (¬ 0 ≤ x0 → v = 0) := by
  rw [im_X4_formNumber]
  by_cases z : 0 ≤ x0
  · obtain ⟨j, hj, rfl⟩ := nI_of (Int32.not_lt.2 z)
    rw [if_pos z]
    have hr : nI j - nI j / 65537 * 65537 = nI (j % 65537) := pk_rem (d := 65537) hj (by omega) (by omega)
    by_cases y : nI j ≤ 65536
    · have hj2 : j ≤ 65536 := (nI_leI (b := 65536) hj (by omega)).1 y
      refine ⟨j, by omega, by rw [if_pos y], fun _ => ?_, fun q => absurd z q⟩
      rw [hr, Nat.mod_eq_of_lt (by omega)]
    · refine ⟨j % 65537, Nat.mod_lt _ (by omega), ?_, fun _ => hr, fun q => absurd z q⟩
      rw [if_neg y, ev_lt, hr]
  · exact ⟨0, by omega, if_neg z, fun q => absurd q z, fun _ => rfl⟩
theorem x2_lo : ∀ v, v < 3 → im_X2_init (nI v) 4 3 2 1 tLg tS tQ tTg = some (nI v, nI (kR v), nI (kn v), nI (kL v), nI (kH v), kh v, nI (kB v), nI (kS v), 0, v) := by
  intro v hv
  have : v = 0 ∨ v = 1 ∨ v = 2 := by omega
  rcases this with rfl | rfl | rfl
  · rfl
  · rfl
  · rfl
theorem x2_ds : im_X2_dataSymbols 1 tTg = some 3 := by decide +kernel
theorem x2_hi {v : Nat} (h : 3 ≤ v) (hv : v < 65537) : im_X2_init (nI v) 4 3 2 1 tLg tS tQ tTg = some (nI 3, nI (kR 3), nI (kn 3), nI (kL 3), nI (kH 3), kh 3, nI (kB 3), nI (kS 3), nI (v % 64), 3) := by
  rw [im_X2_init, ev_j1, if_pos (show (3 : Int32) ≤ nI v from nI_le (a := 3) h (by omega))]
  have e1 : im_X2_widthsOf 3 4 3 2 1 tLg tS tQ tTg = some 3 := by decide +kernel
  have e2 : im_X2_checksOf 3 = some 2 := by decide +kernel
  show im_b1 (im_X2_widthsOf 3 4 3 2 1 tLg tS tQ tTg) _ = _
  rw [e1, ev_b1, e2, ev_b1]
  show im_b1 (im_X2_dataSymbols 1 tTg) _ = _
  rw [x2_ds, ev_b1]
  have hr : nI v - nI v / 64 * 64 = nI (v % 64) := pk_rem (d := 64) (by omega) (by omega) (by omega)
  rw [← hr]
  rfl
theorem fill_ok : ∀ n ∈ [1, 2, 3, 4], (im_J7_fill_d0a16 (-1) n (fun _ => 0)).map (fun f => decide (∀ i, i < n → f i = -1)) = some true := by decide +kernel
theorem knm : ∀ k, k < 4 → kn k ∈ [5, 12, 16, 22] ∧ kF k ∈ [1, 2, 3, 4] ∧ sel4 k 3 4 2 1 = kF k := by decide
theorem x0_ok {k : Nat} (hk : k < 4) : ∃ fgen fpw, Rp (kR k + 1) fgen (Gc (kR k)) ∧ Rp (kn k) fpw (Xp (kn k)) ∧ im_X0_init (nI (kn k)) (nI (kR k)) = some (nI (kn k), nI (kR k), kR k + 1, kn k, kR k, kR k + 1, kR k + 1, kR k + 1, kR k, kR k, fgen, fpw, (fun _ => 0), (fun _ => 0), (fun _ => 0), (fun _ => 0), (fun _ => 0), (fun _ => 0)) := by
  have hp := kp k hk
  obtain ⟨fgen, g1, g2⟩ := map_dec (gen_ok (kR k) (kRm k hk))
  obtain ⟨fpw, p1, p2⟩ := map_dec (pow_ok (kn k) (knm k hk).1)
  refine ⟨fgen, fpw, g2, p2, ?_⟩
  rw [im_X0_init]
  simp only [ev_lt]
  rw [nI_1, ev_nw (by omega), ev_nw (by omega), ev_nw (by omega), ev_nw (by omega), ev_nw (by omega), ev_nw (by omega), ev_nw (by omega), ev_nw (by omega), p1, ev_b1, g1, ev_b1]
def kw (k : Nat) : Nat → Int32 := sel4 k tS tLg tQ tTg
theorem kw_Wd : ∀ k, k < 4 → Wd k (kw k) := by
  unfold Wd
  decide +kernel
def kb (k : Nat) (i : Nat) : Int32 := match i with
  | 0 => if k = 2 then 12 else if k = 3 then 18 else 6
  | 1 => if k = 2 then 36 else 24
  | 2 => if k = 0 then 18 else 30
  | 3 => 36
  | _ => 0
theorem kb_Wd : ∀ k, k < 4 → Wd k (kb k) := by
  unfold Wd
  decide +kernel
theorem init_ok (x0 : Int32) : ∃ (k v : Nat) (key : Gf) (fgen fpw : Nat → Int32) (gv td : Nat → Int64), k < 4 ∧ Ky k (nI v) key ∧ Rp (kR k + 1) fgen (Gc (kR k)) ∧ Rp (kn k) fpw (Xp (kn k)) ∧ (∀ f, f < kF k → gv f = -1) ∧ (∀ f, f < kF k → td f = -1) ∧
    im_X4_init x0 4 3 2 1 tLg tS tQ tTg = some (0, 0, -1, 0, -1, nI k, nI (kR k), nI (kn k), nI (kL k), nI (kH k), kh k, nI (kB k), nI (kS k), Gi key, nI (kn k), nI (kR k), k, 200, kR k + 1, kn k, kR k, kR k + 1, kR k + 1, kR k + 1, kR k, kR k, kF k, kF k, kL k, kn k, kn k, (fun _ => 0), fgen, fpw, (fun _ => 0), (fun _ => 0), (fun _ => 0), (fun _ => 0), (fun _ => 0), (fun _ => 0), gv, td, (fun _ => 0), (fun _ => 0), (fun _ => 0)) ∧
    ∃ fb, Wd k fb ∧ im_X5_init x0 = some (0, nI k, nI v, nI (kF k), nI (kR k), nI (kn k), 0, 0, 0, -1, -1, 0, 4, 4, 4, 144, 200, 4, 22, 22, 72, 8, 144, fb, (fun _ => 0), (fun _ => 0), (fun _ => 0), (fun _ => 0), (fun _ => 0), (fun _ => 0), (fun _ => 0), (fun _ => 0), (fun _ => 0), (fun _ => 0)) := by
  obtain ⟨v, hv, e1, e2, e3⟩ := fn_ok x0
  obtain ⟨k, hk, hkv, key, hK, e4⟩ : ∃ k, k < 4 ∧ (k = v ∧ v < 3 ∨ k = 3 ∧ 3 ≤ v) ∧ ∃ key, Ky k (nI v) key ∧ im_X2_init (nI v) 4 3 2 1 tLg tS tQ tTg = some (nI k, nI (kR k), nI (kn k), nI (kL k), nI (kH k), kh k, nI (kB k), nI (kS k), Gi key, k) := by
    by_cases z : v < 3
    · exact ⟨v, by omega, Or.inl ⟨rfl, z⟩, 0#6, ⟨fun y => by omega, fun _ => rfl⟩, x2_lo v z⟩
    · refine ⟨3, by omega, Or.inr ⟨rfl, by omega⟩, BitVec.ofNat 6 v, ⟨fun _ => by rw [m6, Gi_of], fun y => absurd rfl y⟩, ?_⟩
      rw [Gi_of]; exact x2_hi (by omega) hv
  have hp := kp k hk
  obtain ⟨fgen, fpw, g1, g2, g3⟩ := x0_ok hk
  obtain ⟨gv, f1, f2⟩ := map_dec (fill_ok (kF k) (knm k hk).2.1)
  refine ⟨k, v, key, fgen, fpw, gv, gv, hk, hK, g1, g2, f2, f2, ?_, ?_⟩
  · rw [im_X4_init, show (200 : Int32) = nI 200 from rfl, ev_nw (by omega), e1, ev_b1, e4, ev_b10, g3, ev_b18, (knm k hk).2.2, ev_nw (by omega), ev_nw (by omega), f1, ev_b1, ev_b1, ev_nw (by omega), ev_nw (by omega), ev_nw (by omega)]
  · have hx : ∀ K : Int32 → Option (Int32 × Int32 × Int32 × Int32 × Int32 × Int32 × Int32 × Int32 × Int32 × Int32 × Int32 × Int32 × Nat × Nat × Nat × Nat × Nat × Nat × Nat × Nat × Nat × Nat × Nat × (Nat → Int32) × (Nat → Int64) × (Nat → Int32) × (Nat → Int32) × (Nat → Int32) × (Nat → Int64) × (Nat → Int32) × (Nat → Int32) × (Nat → Int32) × (Nat → Int32) × (Nat → Int32)), im_j1 K (fun K2 => if 0 ≤ x0 then im_lt (x0 - x0 / (65537 : Int32) * (65537 : Int32)) (fun v26 => (K2 v26)) else (K2 (0 : Int32))) = K (nI v) := by
      intro K
      rw [ev_j1]
      by_cases z : 0 ≤ x0
      · rw [if_pos z, ev_lt, e2 z]
      · rw [if_neg z, e3 z]; rfl
    have hn0 : v ≠ 0 → ¬ nI v = 0 := fun y q => y ((nI_eq (b := 0) (by omega) (by omega)).1 q)
    have hn1 : v ≠ 1 → ¬ nI v = 1 := fun y q => y ((nI_eq (b := 1) (by omega) (by omega)).1 q)
    have hn2 : v ≠ 2 → ¬ nI v = 2 := fun y q => y ((nI_eq (b := 2) (by omega) (by omega)).1 q)
    refine ⟨upd (upd (upd (upd (fun _ => 0) 0 (if k = 2 then 12 else if k = 3 then 18 else 6)) 1 (if k = 2 then 36 else 24)) 2 (if k = 0 then 18 else 30)) 3 36, ?_, ?_⟩
    · have : k = 0 ∨ k = 1 ∨ k = 2 ∨ k = 3 := by omega
      unfold Wd
      rcases this with rfl | rfl | rfl | rfl <;> decide +kernel
    · rw [im_X5_init]
      rw [show (4 : Int32) = nI 4 from rfl, show (144 : Int32) = nI 144 from rfl, show (200 : Int32) = nI 200 from rfl, show (22 : Int32) = nI 22 from rfl, show (72 : Int32) = nI 72 from rfl, ev_nw (by omega), ev_nw (by omega), ev_nw (by omega), ev_nw (by omega), ev_nw (by omega), ev_nw (by omega), ev_nw (by omega), ev_nw (by omega), ev_nw (by omega)]
      rw [show im_nw (8 : Int32) = im_nw (nI 8) from rfl, ev_nw (by omega), ev_nw (by omega)]
      refine (hx _).trans ?_
      rw [ev_j1]
      rcases hkv with ⟨rfl, hv3⟩ | ⟨rfl, hv3⟩
      · have : k = 0 ∨ k = 1 ∨ k = 2 := by omega
        rcases this with rfl | rfl | rfl
        · rfl
        · rfl
        · rfl
      · rw [if_neg (hn0 (by omega)), if_neg (hn1 (by omega)), if_neg (hn2 (by omega))]
        rfl
