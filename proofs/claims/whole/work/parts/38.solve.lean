theorem g_pivot {R m k : Nat} {f : Nat → Int32} {M : Nat → Nat → Gf} (hf : Lm R m f M) (hR : R ≤ 8) (hm : m ≤ 8) (hkm : k ≤ m) (hk : k ≤ R) (hp : ∃ a, k ≤ a ∧ a < R ∧ M a k ≠ 0#6) :
    ∃ a, k ≤ a ∧ a < R ∧ M a k ≠ 0#6 ∧ ∀ K, im_X5_solve_L14 (nI R) K (nI k) 72 f 5000 (nI k) = K (nI a) := by
  have key : ∀ (d b q : Nat), b + d = R → d < q → k ≤ b → (∃ a, b ≤ a ∧ a < R ∧ M a k ≠ 0#6) → ∃ a, k ≤ a ∧ a < R ∧ M a k ≠ 0#6 ∧ ∀ K, im_X5_solve_L14 (nI R) K (nI k) 72 f q (nI b) = K (nI a) := by
    intro d
    induction d with
    | zero =>
      intro b q hb _ _ ⟨a, h1, h2, _⟩
      omega
    | succ d ih =>
      intro b q hb hq hkb ⟨a, h1, h2, h3⟩
      obtain ⟨g, rfl⟩ : ∃ g, q = g + 1 := ⟨q - 1, by omega⟩
      have e0 := hf b k (by omega) hkm
      by_cases hz : M b k = 0#6
      · obtain ⟨a', q1, q2, q3, q4⟩ := ih (b + 1) g (by omega) (by omega) (by omega) ⟨a, by
          rcases Nat.lt_or_ge b a with z | z
          · exact z
          · exfalso; have : a = b := by omega
            subst this; exact h3 hz, h2, h3⟩
        refine ⟨a', q1, q2, q3, fun K => ?_⟩
        rw [im_X5_solve_L14, if_neg (nI_ge (by omega) (by omega)), ev_lt, ev_lt, show (9 : Int32) = nI 9 from rfl, pk_mul, nI_add, ev_ld (by omega) (by omega), e0, if_pos (Gi_z.mpr hz), ev_lt, nI_1]
        exact q4 K
      · refine ⟨b, hkb, by omega, hz, fun K => ?_⟩
        rw [im_X5_solve_L14, if_neg (nI_ge (by omega) (by omega)), ev_lt, ev_lt, show (9 : Int32) = nI 9 from rfl, pk_mul, nI_add, ev_ld (by omega) (by omega), e0, if_neg (fun q => hz (Gi_z.mp q))]
  exact key (R - k) k 5000 (by omega) (by omega) (Nat.le_refl k) hp
theorem g_loop {R m : Nat} {f : Nat → Int32} {M : Nat → Nat → Gf} (hf : Lm R m f M) (hR : R ≤ 8) (hm : m ≤ R) (hind : ∀ d, So R m M d 0#6 → ∀ c, c < m → d c = 0#6) :
    ∃ f' M', Lm R m f' M' ∧ Un R m M' ∧ (∀ d t, So R m M' d t ↔ So R m M d t) ∧ ∀ K, im_X5_solve_L7 (nI m) K (nI R) 72 5000 0 f = K f' := by
  obtain ⟨s, hs, e⟩ := lp_up (fun q k (s : Nat → Int32) => fun K => im_X5_solve_L7 (nI m) K (nI R) 72 q k s) (fun s => fun K => K s) m
    (fun k s => ∃ M', Lm R m s M' ∧ Un R k M' ∧ ∀ d t, So R m M' d t ↔ So R m M d t)
    (fun q s _ => by
      funext K
      rw [im_X5_solve_L7, if_pos (nI_le (Nat.le_refl m) (by omega))])
    (fun q k s hk hs => by
      obtain ⟨M1, hl, hu, hso⟩ := hs
      obtain ⟨a, ha1, ha2, ha3, ha4⟩ := g_pivot hl hR (by omega) (by omega) (by omega) (un_pivot hu hk hm (fun d hd => hind d ((hso d _).mp hd)))
      obtain ⟨s1, e1, hl1⟩ := g_exch hl hR (by omega) ha2 (by omega : k < R)
      have hkk : gs_sw M1 a k k k ≠ 0#6 := by
        unfold gs_sw
        by_cases z : k = a
        · rw [if_pos z]; rw [← z] at ha3; exact ha3
        · rw [if_neg z, if_pos rfl]; exact ha3
      obtain ⟨s2, hl2, e2⟩ := g_scale (gf_i (gs_sw M1 a k k k)) hl1 hR (by omega) (by omega : k < R)
      obtain ⟨s3, hl3, e3⟩ := g_elim hl2 hR (by omega) (by omega : k < R) hk
      refine ⟨s3, ⟨_, hl3, un_step (m := m) hu ha1 ha2 ha3, fun d t => (so_el (by omega) d t).trans ((so_sc (by omega) (gf_i_nz hkk) d t).trans ((so_sw ha2 (by omega) d t).trans (hso d t)))⟩, ?_⟩
      funext K
      have e0 := hl1 k k (by omega) (by omega)
      rw [im_X5_solve_L7, if_neg (nI_ge hk (by omega)), ev_j1, ha4, if_neg (fun z => by have := (nI_eq (by omega) (by omega)).mp z; omega), e1, ev_b1, ev_lt, ev_lt, show (9 : Int32) = nI 9 from rfl, pk_mul, nI_add, ev_ld (by omega) (by omega), e0, ar_minv _ hkk, ev_b1, ev_j1, e2, ev_j1, e3, ev_lt, nI_1]) m 0 f 5000 (by omega) (by omega) ⟨M, hf, fun j c _ hc => by omega, fun d t => Iff.rfl⟩
  obtain ⟨M', h1, h2, h3⟩ := hs
  exact ⟨s, M', h1, h2, h3, fun K => congrFun e K⟩
theorem g_check {R m : Nat} {f : Nat → Int32} {M : Nat → Nat → Gf} (hf : Lm R m f M) (hR : R ≤ 8) (hm : m ≤ R) :
    ∃ r, im_X5_solve_L227 (nI R) f (nI m) 72 5000 (nI m) = some (r, f) ∧ ((r = 1 ∧ ∀ j, m ≤ j → j < R → M j m = 0#6) ∨ (r = 0 ∧ ∃ j, m ≤ j ∧ j < R ∧ M j m ≠ 0#6)) := by
  have key : ∀ (d b q : Nat), b + d = R → d < q → m ≤ b → (∀ j, m ≤ j → j < b → M j m = 0#6) → ∃ r, im_X5_solve_L227 (nI R) f (nI m) 72 q (nI b) = some (r, f) ∧ ((r = 1 ∧ ∀ j, m ≤ j → j < R → M j m = 0#6) ∨ (r = 0 ∧ ∃ j, m ≤ j ∧ j < R ∧ M j m ≠ 0#6)) := by
    intro d
    induction d with
    | zero =>
      intro b q hb hq hmb hz
      obtain ⟨g, rfl⟩ : ∃ g, q = g + 1 := ⟨q - 1, by omega⟩
      refine ⟨1, ?_, Or.inl ⟨rfl, fun j h1 h2 => hz j h1 (by omega)⟩⟩
      rw [im_X5_solve_L227, if_pos (nI_le (by omega) (by omega))]
    | succ d ih =>
      intro b q hb hq hmb hz
      obtain ⟨g, rfl⟩ : ∃ g, q = g + 1 := ⟨q - 1, by omega⟩
      have e0 := hf b m (by omega) (Nat.le_refl m)
      by_cases h0 : M b m = 0#6
      · obtain ⟨r, er, hr⟩ := ih (b + 1) g (by omega) (by omega) (by omega) (fun j h1 h2 => by
          by_cases z : j = b
          · rw [z]; exact h0
          · exact hz j h1 (by omega))
        refine ⟨r, ?_, hr⟩
        rw [im_X5_solve_L227, if_neg (nI_ge (by omega) (by omega)), ev_lt, ev_lt, show (9 : Int32) = nI 9 from rfl, pk_mul, nI_add, ev_ld (by omega) (by omega), e0, if_pos (Gi_z.mpr h0), ev_lt, nI_1]
        exact er
      · refine ⟨0, ?_, Or.inr ⟨rfl, b, hmb, by omega, h0⟩⟩
        rw [im_X5_solve_L227, if_neg (nI_ge (by omega) (by omega)), ev_lt, ev_lt, show (9 : Int32) = nI 9 from rfl, pk_mul, nI_add, ev_ld (by omega) (by omega), e0, if_neg (fun q => h0 (Gi_z.mp q))]
  exact key (R - m) m 5000 (by omega) (by omega) (Nat.le_refl m) (fun j h1 h2 => by omega)
theorem g_sum {n N j : Nat} {f : Nat → Int32} {w : Nat → Gf} (hf : Rp n f w) (hN : n ≤ N) (hb : N < 1000) (hj : j < 8) : im_X5_sumAt (nI (j + 1)) (nI n) N f = some (Gi (bm_S n (Xp n) w j)) := by
  have ep := ar_power ⟨j + 1, by omega⟩
  simp only at ep
  rw [im_X5_sumAt, ep, ev_b1]
  obtain ⟨s, hs, e⟩ := lp_up (fun g k s => im_X5_sumAt_L10 (nI n) (Gi (gf_p 2#6 (j + 1))) N f g s k) (fun s => some s) n (fun i s => s = Gi (hn w (gf_p 2#6 (j + 1)) i))
    (fun g s hs => by
      show im_X5_sumAt_L10 (nI n) _ N f (g + 1) s (nI n) = some s
      rw [im_X5_sumAt_L10, if_pos (nI_le (Nat.le_refl n) (by omega))])
    (fun g i s hi hs => ⟨Gi (hn w (gf_p 2#6 (j + 1)) (i + 1)), rfl, by
      show im_X5_sumAt_L10 (nI n) _ N f (g + 1) s (nI i) = im_X5_sumAt_L10 (nI n) _ N f g _ (nI (i + 1))
      rw [im_X5_sumAt_L10, if_neg (nI_ge hi (by omega)), hs, ar_times, ev_b1, ev_ld (by omega) (by omega), ev_lt, ev_lt, hf i hi, Gi_xor, nI_1]
      rfl⟩) n 0 0 5000 (by omega) (by omega) rfl
  rw [hs, hn_bm] at e
  exact e
theorem gf_mod (x : Nat) : gf_p 2#6 (x % 63) = gf_p 2#6 x := by
  have h63 : gf_p 2#6 63 = 1#6 := by decide +kernel
  conv => rhs; rw [← Nat.div_add_mod x 63]
  rw [gf_p_add, ← gf_p_p, h63, gf_p_1, gf_1_m]
def M0 (n m : Nat) (pl : Nat → Nat) (w : Nat → Gf) : Nat → Nat → Gf := fun j c => if c < m then gf_p (Xp n (pl c)) (j + 1) else bm_S n (Xp n) w j
theorem g_writein {n m R j : Nat} {f fp : Nat → Int32} {pl : Nat → Nat} (hj : j < R) (hR : R ≤ 8) (hm : m ≤ 8) (hp : ∀ c, c < m → fp c = nI (pl c) ∧ pl c < n) (hn : n ≤ 22) :
    ∃ s, (∀ c, c < m → s (9 * j + c) = Gi (gf_p (Xp n (pl c)) (j + 1))) ∧ (∀ i, ¬ (9 * j ≤ i ∧ i < 9 * j + m) → s i = f i) ∧ ∀ K, im_X5_write_L12 (nI m) K (nI j) (nI n) 8 fp 72 5000 0 f = K s := by
  obtain ⟨s, hs, e⟩ := lp_up (fun q c (s : Nat → Int32) => fun K => im_X5_write_L12 (nI m) K (nI j) (nI n) 8 fp 72 q c s) (fun s => fun K => K s) m
    (fun c s => (∀ c', c' < c → s (9 * j + c') = Gi (gf_p (Xp n (pl c')) (j + 1))) ∧ ∀ i, ¬ (9 * j ≤ i ∧ i < 9 * j + c) → s i = f i)
    (fun q s _ => by
      funext K
      rw [im_X5_write_L12, if_pos (nI_le (Nat.le_refl m) (by omega))])
    (fun q c s hc hs => by
      obtain ⟨hpc, hpn⟩ := hp c hc
      refine ⟨upd s (9 * j + c) (Gi (gf_p (Xp n (pl c)) (j + 1))), ⟨fun c' hc' => ?_, fun i hi => (up_n _ _ (by omega)).trans (hs.2 i (by omega))⟩, ?_⟩
      · by_cases z : c' = c
        · subst z; exact up_s _ _ _
        · exact (up_n _ _ (by omega)).trans (hs.1 c' (by omega))
      · funext K
        have hlt : (n - 1 - pl c) * (j + 1) % 63 < 64 := by have := Nat.mod_lt ((n - 1 - pl c) * (j + 1)) (by omega : 63 > 0); omega
        have ep := ar_power ⟨(n - 1 - pl c) * (j + 1) % 63, hlt⟩
        simp only at ep
        have hb : (n - 1 - pl c) * (j + 1) < 2 ^ 31 := by
          have h1 : (n - 1 - pl c) * (j + 1) ≤ 22 * 8 := Nat.mul_le_mul (by omega) (by omega)
          omega
        rw [im_X5_write_L12, if_neg (nI_ge hc (by omega))]
        simp only [ev_lt]
        rw [ev_ld (by omega) (by omega), hpc, show (9 : Int32) = nI 9 from rfl, show (1 : Int32) = nI 1 from rfl, show (63 : Int32) = nI 63 from rfl, pk_mul, nI_add, pk_sub (by omega), pk_sub (by omega), nI_add, pk_mul, pk_rem hb (by omega) (by omega), ep, ev_b1, ev_st (by omega) (by omega), nI_add, gf_mod, gf_p_p]) m 0 f 5000 (by omega) (by omega) ⟨fun c' h => by omega, fun i _ => rfl⟩
  exact ⟨s, hs.1, hs.2, fun K => congrFun e K⟩
theorem g_write {n m R : Nat} {fl fp fw : Nat → Int32} {pl : Nat → Nat} {w : Nat → Gf} (hR : R ≤ 8) (hm : m ≤ 8) (hp : ∀ c, c < m → fp c = nI (pl c) ∧ pl c < n) (hn : n ≤ 22) (hw : Rp n fw w) :
    ∃ s, im_X5_write (nI m) (nI R) (nI n) 72 8 22 fl fp fw = some s ∧ Lm R m s (M0 n m pl w) := by
  obtain ⟨s, hs, e⟩ := lp_up (fun q j (s : Nat → Int32) => im_X5_write_L2 (nI R) (nI m) (nI n) 22 fw 72 8 fp q j s) (fun s => some s) R
    (fun j s => ∀ i c, i < j → c ≤ m → s (9 * i + c) = Gi (M0 n m pl w i c))
    (fun q s _ => by
      show im_X5_write_L2 (nI R) (nI m) (nI n) 22 fw 72 8 fp (q + 1) (nI R) s = some s
      rw [im_X5_write_L2, if_pos (nI_le (Nat.le_refl R) (by omega))])
    (fun q j s hj hs => by
      obtain ⟨s1, h1, h2, e1⟩ := g_writein (f := s) hj hR hm hp hn
      refine ⟨upd s1 (9 * j + m) (Gi (bm_S n (Xp n) w j)), fun i c hi hc => ?_, ?_⟩
      · unfold M0
        by_cases z : i = j
        · subst z
          by_cases zc : c < m
          · rw [up_n _ _ (by omega), if_pos zc]; exact h1 c zc
          · rw [show c = m by omega, up_s, if_neg (by omega)]
        · rw [up_n _ _ (by omega), h2 _ (by omega)]
          exact hs i c (by omega) hc
      · show im_X5_write_L2 (nI R) (nI m) (nI n) 22 fw 72 8 fp (q + 1) (nI j) s = im_X5_write_L2 (nI R) (nI m) (nI n) 22 fw 72 8 fp q (nI (j + 1)) _
        rw [im_X5_write_L2, if_neg (nI_ge hj (by omega)), ev_j1, e1]
        simp only [ev_lt]
        rw [nI_1, g_sum hw (by omega) (by omega) (by omega), ev_b1, show (9 : Int32) = nI 9 from rfl, pk_mul, nI_add, ev_st (by omega) (by omega)]) R 0 fl 5000 (by omega) (by omega) (fun i c hi => by omega)
  exact ⟨s, e, hs⟩
/-- the system that the places pl make -/
def Sy (n R m : Nat) (pl : Nat → Nat) (w d : Nat → Gf) : Prop := ∀ j, j < R → gf_s m (fun c => gf_m (gf_p (Xp n (pl c)) (j + 1)) (d c)) = bm_S n (Xp n) w j
theorem so_sy {n R m : Nat} {pl : Nat → Nat} {w d : Nat → Gf} (t : Gf) : So R m (M0 n m pl w) d t ↔ ∀ j, j < R → gf_s m (fun c => gf_m (gf_p (Xp n (pl c)) (j + 1)) (d c)) = gf_m t (bm_S n (Xp n) w j) := by
  unfold So M0
  constructor
  · intro h j hj
    have := h j hj
    rw [if_neg (by omega)] at this
    rw [← this]
    exact gf_s_congr (fun c hc => by rw [if_pos hc])
  · intro h j hj
    rw [if_neg (by omega), ← h j hj]
    exact gf_s_congr (fun c hc => by rw [if_pos hc])
theorem g_solve {n m R : Nat} {fl fp fw : Nat → Int32} {pl : Nat → Nat} {w : Nat → Gf} (hR : R ≤ 8) (hm : m ≤ R) (hp : ∀ c, c < m → fp c = nI (pl c) ∧ pl c < n) (hinj : ∀ a b, a < m → b < m → pl a = pl b → a = b) (hn : n ≤ 22) (hw : Rp n fw w) :
    ∃ r f', im_X5_solve (nI m) (nI R) (nI n) 72 8 22 fl fp fw = some (r, f') ∧ ((r = 1 ∧ ∃ D, (∀ c, c < m → f' (9 * c + m) = Gi (D c)) ∧ Sy n R m pl w D) ∨ (r = 0 ∧ ∀ d, ¬ Sy n R m pl w d)) := by
  obtain ⟨s1, e1, hl1⟩ := g_write (fl := fl) hR (by omega) hp hn hw
  obtain ⟨s2, M', hl2, hu, hso, e2⟩ := g_loop hl1 hR hm (fun d hd => by
    rw [so_sy] at hd
    refine gf_vd (n := m) (X := fun c => Xp n (pl c)) (fun a b ha hb h => hinj a b ha hb (Xp_inj hn _ _ (hp a ha).2 (hp b hb).2 h)) (fun c _ => Xp_nz n _) m d 1 (gf_c_max m _) (fun k hk => ?_)
    have := hd k (by omega)
    rw [gf_0_m] at this
    rw [← this]
    exact gf_s_congr (fun c _ => by rw [gf_m_comm, Nat.add_comm]))
  obtain ⟨r, e3, hr⟩ := g_check hl2 hR hm
  have hred : ∀ d, So R m M' d 1#6 ↔ ((∀ c, c < m → d c = M' c m) ∧ ∀ j, m ≤ j → j < R → M' j m = 0#6) := by
    intro d
    constructor
    · intro h
      refine ⟨fun c hc => ?_, fun j h1 h2 => ?_⟩
      · have := h c (by omega)
        rw [gf_s_one (i0 := c) hc (fun c' hc' q => by rw [hu c c' (by omega) hc', if_neg (fun z => q z.symm), gf_0_m]), hu c c (by omega) hc, if_pos rfl, gf_1_m, gf_1_m] at this
        exact this
      · have := h j h2
        rw [gf_s_zero (fun c hc => by rw [hu j c h2 hc, if_neg (by omega), gf_0_m]), gf_1_m] at this
        exact this.symm
    · rintro ⟨h1, h2⟩ j hj
      rw [gf_1_m]
      by_cases z : j < m
      · rw [gf_s_one (i0 := j) z (fun c hc q => by rw [hu j c hj hc, if_neg (fun z => q z.symm), gf_0_m]), hu j j hj z, if_pos rfl, gf_1_m, h1 j z]
      · rw [gf_s_zero (fun c hc => by rw [hu j c hj hc, if_neg (by omega), gf_0_m]), h2 j (by omega) hj]
  have hsy : ∀ d, Sy n R m pl w d ↔ So R m M' d 1#6 := fun d => by
    rw [hso, so_sy]
    unfold Sy
    constructor
    · intro h j hj; rw [gf_1_m]; exact h j hj
    · intro h j hj; have := h j hj; rwa [gf_1_m] at this
  refine ⟨r, s2, ?_, ?_⟩
  · rw [im_X5_solve, e1, ev_b1, ev_j1, e2]
    exact e3
  · rcases hr with ⟨hr, hz⟩ | ⟨hr, j, h1, h2, h3⟩
    · exact Or.inl ⟨hr, fun c => M' c m, fun c hc => hl2 c m (by omega) (Nat.le_refl m), (hsy _).mpr ((hred _).mpr ⟨fun c _ => rfl, hz⟩)⟩
    · exact Or.inr ⟨hr, fun d hd => h3 (((hred d).mp ((hsy d).mp hd)).2 j h1 h2)⟩
