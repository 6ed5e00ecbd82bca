theorem fs_in {n N : Nat} {f : Nat → Int32} {w : Nat → Gf} (hf : Rp n f w) (hN : n ≤ N) (hb : N < 1000) (K : Int32 → Option (Nat → Int32)) (r : Gf) :
    im_X0_fillSyndromes_L24 (nI n) K (Gi r) N f 5000 0 0 = K (Gi (hn w r n)) := by
  obtain ⟨s, hs, e⟩ := lp_up (fun g k s => im_X0_fillSyndromes_L24 (nI n) K (Gi r) N f g s k) K n (fun i s => s = Gi (hn w r i))
    (fun g s hs => by
      show im_X0_fillSyndromes_L24 (nI n) K (Gi r) N f (g + 1) s (nI n) = K s
      rw [im_X0_fillSyndromes_L24, if_pos (nI_le (Nat.le_refl n) (by omega))])
    (fun g i s hi hs => ⟨Gi (hn w r (i + 1)), rfl, by
      show im_X0_fillSyndromes_L24 (nI n) K (Gi r) N f (g + 1) s (nI i) = im_X0_fillSyndromes_L24 (nI n) K (Gi r) N f g (Gi (hn w r (i + 1))) (nI (i + 1))
      rw [im_X0_fillSyndromes_L24, if_neg (nI_ge hi (by omega)), hs, ar_prod, ev_b1, ev_ld (by omega) (by omega), ev_lt, ev_lt, hf i hi, Gi_xor, nI_1]
      rfl⟩) n 0 0 5000 (by omega) (by omega) rfl
  rw [show (0 : Int32) = nI 0 from rfl] at *
  rw [hs] at e
  exact e
abbrev Xp (n i : Nat) : Gf := gf_p 2#6 (n - 1 - i)
theorem hn_bm (w : Nat → Gf) (n j : Nat) : hn w (gf_p 2#6 (j + 1)) n = bm_S n (Xp n) w j := by
  rw [hn_s]
  unfold bm_S
  refine gf_s_congr (fun i _ => ?_)
  rw [gf_p_p, gf_p_p, Nat.mul_comm]
theorem f_syn {n N R NS : Nat} {f fs : Nat → Int32} {w : Nat → Gf} (hf : Rp n f w) (hN : n ≤ N) (hb : N < 1000) (hR : R ≤ NS) (hs : NS < 1000) :
    ∃ f', im_X0_fillSyndromes (nI n) (nI R) N NS f fs = some f' ∧ Rp R f' (bm_S n (Xp n) w) := by
  obtain ⟨s, hs, e⟩ := lp_up (fun g k (s : Int32 × (Nat → Int32)) => im_X0_fillSyndromes_L4 (nI R) NS (nI n) N f g s.1 k s.2) (fun s => some s.2) R (fun j s => s.1 = Gi (gf_p 2#6 j) ∧ Rp j s.2 (bm_S n (Xp n) w))
    (fun g s hs => by
      show im_X0_fillSyndromes_L4 (nI R) NS (nI n) N f (g + 1) s.1 (nI R) s.2 = some s.2
      rw [im_X0_fillSyndromes_L4, if_pos (nI_le (Nat.le_refl R) (by omega))])
    (fun g j s hj hs => ⟨(Gi (gf_p 2#6 (j + 1)), upd s.2 j (Gi (bm_S n (Xp n) w j))), ⟨rfl, fun i hi => by
      by_cases q : i = j
      · subst q; exact up_s _ _ _
      · exact (up_n _ _ q).trans (hs.2 i (by omega))⟩, by
      show im_X0_fillSyndromes_L4 (nI R) NS (nI n) N f (g + 1) s.1 (nI j) s.2 = im_X0_fillSyndromes_L4 (nI R) NS (nI n) N f g (Gi (gf_p 2#6 (j + 1))) (nI (j + 1)) (upd s.2 j (Gi (bm_S n (Xp n) w j)))
      rw [im_X0_fillSyndromes_L4, if_neg (nI_ge hj (by omega)), hs.1, show (2 : Int32) = Gi 2#6 from rfl, ar_prod, ev_b1, gf_m_comm]
      rw [ev_j1, show gf_m 2#6 (gf_p 2#6 j) = gf_p 2#6 (j + 1) from rfl, fs_in hf hN hb, ev_st (by omega) (by omega), ev_lt, hn_bm, nI_1]⟩) R 0 (1, fs) 5000 (by omega) (by omega) ⟨rfl, fun i hi => by omega⟩
  exact ⟨s.2, e, hs.2⟩
theorem f_mulX {R N : Nat} {f : Nat → Int32} {B : Nat → Gf} (hf : Rp (R + 1) f B) (hN : R + 1 ≤ N) (hb : N < 1000) :
    ∃ f', im_X0_multiplyFormerByX (nI R) N f = some f' ∧ Rp (R + 1) f' (gf_sh B) := by
  unfold im_X0_multiplyFormerByX im_j1
  obtain ⟨s, hs, e⟩ := lp_dn (fun g k (s : Nat → Int32) => im_X0_multiplyFormerByX_L5 (fun f1 => im_st N f1 0 0 (fun f3 => some f3)) N g k s) (fun s => im_st N s 0 0 (fun f3 => some f3)) (fun k s => k ≤ R ∧ (∀ i, i ≤ k → s i = Gi (B i)) ∧ ∀ i, k < i → i ≤ R → s i = Gi (gf_sh B i))
    (fun g s hs => by
      show im_X0_multiplyFormerByX_L5 _ N (g + 1) (nI 0) s = _
      rw [im_X0_multiplyFormerByX_L5, if_pos (by decide)])
    (fun g k s hs => ⟨upd s (k + 1) (Gi (B k)), ⟨by omega, fun i hi => by rw [up_n _ _ (by omega)]; exact hs.2.1 i (by omega), fun i h1 h2 => by
      by_cases q : i = k + 1
      · subst q; rw [up_s]; rfl
      · rw [up_n _ _ q]; exact hs.2.2 i (by omega) h2⟩, by
      show im_X0_multiplyFormerByX_L5 _ N (g + 1) (nI (k + 1)) s = im_X0_multiplyFormerByX_L5 _ N g (nI k) (upd s (k + 1) (Gi (B k)))
      rw [im_X0_multiplyFormerByX_L5, if_neg (nI_nle (by omega) (by omega)), ev_lt, nI_pred, ev_ld (by omega) (by omega), ev_st (by omega) (by omega), ev_lt, pk_m1, hs.2.1 k (by omega)]⟩) R f 5000 (by omega) ⟨Nat.le_refl R, fun i hi => hf i (by omega), fun i h1 h2 => by omega⟩
  refine ⟨upd s 0 0, ?_, ?_⟩
  · refine e.trans ?_
    show im_st N s (nI 0) 0 _ = _
    rw [ev_st (by omega) (by omega)]
  · intro i hi
    cases i with
    | zero => exact up_s _ _ _
    | succ i => rw [up_n _ _ (by omega)]; exact hs.2.2 (i + 1) (by omega) (by omega)
theorem f_gap {R NL NS k : Nat} {fl fs : Nat → Int32} {C S : Nat → Gf} (hl : Rp (R + 1) fl C) (hs : Rp R fs S) (hk : k < R) (hNL : R + 1 ≤ NL) (hNS : R ≤ NS) (hb1 : NL < 1000) (hb2 : NS < 1000) :
    im_X0_gapAt (nI k) NL NS fl fs = some (Gi (bm_G S C k)) := by
  unfold im_X0_gapAt
  obtain ⟨s, hs', e⟩ := lp_up (fun g j (s : Int32) => im_X0_gapAt_L4 (nI k) NL fl NS fs g s j) (fun s => some s) (k + 1) (fun j s => s = Gi (gf_s j (fun j => gf_m (C j) (S (k - j)))))
    (fun g s _ => by
      show im_X0_gapAt_L4 (nI k) NL fl NS fs (g + 1) s (nI (k + 1)) = some s
      rw [im_X0_gapAt_L4, if_pos (nI_lt (by omega) (by omega))])
    (fun g j s hj hs' => ⟨Gi (gf_s (j + 1) (fun j => gf_m (C j) (S (k - j)))), rfl, by
      show im_X0_gapAt_L4 (nI k) NL fl NS fs (g + 1) s (nI j) = im_X0_gapAt_L4 (nI k) NL fl NS fs g (Gi (gf_s (j + 1) (fun j => gf_m (C j) (S (k - j))))) (nI (j + 1))
      rw [im_X0_gapAt_L4, if_neg (nI_nlt (by omega) (by omega)), ev_ld (by omega) (by omega), ev_lt, pk_sub (by omega), ev_ld (by omega) (by omega), hl j (by omega), hs (k - j) (by omega), ar_prod, ev_b1, ev_lt, ev_lt, hs', Gi_xor, nI_1]
      rfl⟩) (k + 1) 0 0 5000 (by omega) (by omega) rfl
  rw [hs'] at e
  exact e
theorem f_cpy {N0 N1 R : Nat} {f g : Nat → Int32} {β : Type} (h0 : R + 1 ≤ N0) (h1 : R + 1 ≤ N1) (hb0 : N0 < 1000) (hb1 : N1 < 1000) (k : (Nat → Int32) → Option β) :
    im_cp N0 N1 f g 0 0 (nI (R + 1)) k = k (va_cpy f g 0 0 (R + 1)) := by
  unfold im_cp
  have e0 : (0 : Int32).toNatClampNeg = 0 := rfl
  rw [e0, nI_clamp (by omega), if_pos ⟨by decide, by decide, nI_pos (by omega), by omega, by omega⟩]
theorem cpy_R {R : Nat} {f g : Nat → Int32} {C : Nat → Gf} (h : Rp (R + 1) f C) : Rp (R + 1) (va_cpy f g 0 0 (R + 1)) C := by
  intro i hi
  unfold va_cpy
  rw [if_pos ⟨Nat.zero_le i, by omega⟩]
  rw [show 0 + (i - 0) = i by omega]
  exact h i hi
theorem f_addA {R NF NL NN : Nat} {ff fl fn : Nat → Int32} {B C : Nat → Gf} (hB : Rp (R + 1) ff B) (hC : Rp (R + 1) fl C) (g : Gf) (hF : R + 1 ≤ NF) (hL : R + 1 ≤ NL) (hN : R + 1 ≤ NN) (hb : NF < 1000) (hb2 : NL < 1000) (hb3 : NN < 1000) :
    ∃ s, Rp (R + 1) s (fun k => C k ^^^ gf_m g (B k)) ∧ ∀ K, im_X0_addFormer_L2 (nI R) K NL fl NF ff (Gi g) NN 5000 0 fn = K s := by
  obtain ⟨s, hs, e⟩ := lp_up (fun q k (s : Nat → Int32) => fun K => im_X0_addFormer_L2 (nI R) K NL fl NF ff (Gi g) NN q k s) (fun s => fun K => K s) (R + 1) (fun k s => Rp k s (fun k => C k ^^^ gf_m g (B k)))
    (fun q s _ => by
      funext K
      rw [im_X0_addFormer_L2, if_pos (nI_lt (by omega) (by omega))])
    (fun q k s hk hs => ⟨upd s k (Gi (C k ^^^ gf_m g (B k))), fun i hi => by
      by_cases e : i = k
      · subst e; exact up_s _ _ _
      · rw [up_n _ _ e]; exact hs i (by omega), by
      funext K
      rw [im_X0_addFormer_L2, if_neg (nI_nlt (by omega) (by omega)), ev_ld (by omega) (by omega), ev_ld (by omega) (by omega), hB k hk, hC k hk, ar_prod, ev_b1, ev_lt, ev_st (by omega) (by omega), ev_lt, Gi_xor, nI_1 k]⟩) (R + 1) 0 fn 5000 (by omega) (by omega) (fun i hi => by omega)
  exact ⟨s, hs, fun K => congrFun e K⟩
theorem f_addB {R NF NL : Nat} {ff fl : Nat → Int32} {C : Nat → Gf} (hC : Rp (R + 1) fl C) (g : Gf) (hF : R + 1 ≤ NF) (hL : R + 1 ≤ NL) (hb : NF < 1000) (hb2 : NL < 1000) :
    ∃ s, Rp (R + 1) s (fun k => gf_m g (C k)) ∧ ∀ K, im_X0_addFormer_L51 (nI R) K NL fl (Gi g) NF 5000 0 ff = K s := by
  obtain ⟨s, hs, e⟩ := lp_up (fun q k (s : Nat → Int32) => fun K => im_X0_addFormer_L51 (nI R) K NL fl (Gi g) NF q k s) (fun s => fun K => K s) (R + 1) (fun k s => Rp k s (fun k => gf_m g (C k)))
    (fun q s _ => by
      funext K
      rw [im_X0_addFormer_L51, if_pos (nI_lt (by omega) (by omega))])
    (fun q k s hk hs => ⟨upd s k (Gi (gf_m g (C k))), fun i hi => by
      by_cases e : i = k
      · subst e; exact up_s _ _ _
      · rw [up_n _ _ e]; exact hs i (by omega), by
      funext K
      rw [im_X0_addFormer_L51, if_neg (nI_nlt (by omega) (by omega)), ev_ld (by omega) (by omega), hC k hk, ar_prod, ev_b1, ev_st (by omega) (by omega), ev_lt, nI_1 k]⟩) (R + 1) 0 ff 5000 (by omega) (by omega) (fun i hi => by omega)
  exact ⟨s, hs, fun K => congrFun e K⟩
theorem f_add {R NF NL NN : Nat} {ff fl fn : Nat → Int32} {B C : Nat → Gf} (hB : Rp (R + 1) ff B) (hC : Rp (R + 1) fl C) (g : Gf) (hF : R + 1 ≤ NF) (hL : R + 1 ≤ NL) (hN : R + 1 ≤ NN) (hb : NF < 1000) (hb2 : NL < 1000) (hb3 : NN < 1000) (grow : Bool) :
    ∃ f1 f2 f3, im_X0_addFormer (Gi g) (if grow then 1 else 0) (nI R) NF NL NN ff fl fn = some (f1, f2, f3) ∧ Rp (R + 1) f2 (fun k => C k ^^^ gf_m g (B k)) ∧ Rp (R + 1) f1 (if grow then fun k => gf_m (gf_i g) (C k) else B) := by
  obtain ⟨s, hs, e⟩ := f_addA (fn := fn) hB hC g hF hL hN hb hb2 hb3
  rw [im_X0_addFormer, ev_j1, e, ev_j1]
  cases grow with
  | false =>
    refine ⟨ff, va_cpy s fl 0 0 (R + 1), s, ?_, cpy_R hs, hB⟩
    rw [if_pos (by decide)]
    show im_lt (nI R + 1) _ = _
    rw [ev_lt, nI_1]
    exact f_cpy hN hL hb3 hb2 _
  | true =>
    obtain ⟨s2, hs2, e2⟩ := f_addB (ff := ff) hC (gf_i g) hF hL hb hb2
    refine ⟨s2, va_cpy s fl 0 0 (R + 1), s, ?_, cpy_R hs, hs2⟩
    rw [if_neg (by decide), ar_inv, ev_b1, e2, ev_lt, nI_1]
    exact f_cpy hN hL hb3 hb2 _
