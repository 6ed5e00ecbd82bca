theorem ot_Hb {k : Nat} {sr : Nat → Int32} (hk : k < 4) (h : ∀ i, i < kL k → sr i = -1 ∨ ∃ x, x ≤ kH k ∧ sr i = nI x) (o : Bool) : Hb k (an k o sr) := by
  intro i hi
  have hp := kp k hk
  have h4 := kH4 k hk
  cases o with
  | false => exact h i hi
  | true =>
    show ot k (sr (kL k - 1 - i)) = -1 ∨ ∃ x, x ≤ kH k ∧ ot k (sr (kL k - 1 - i)) = nI x
    rw [ot]
    by_cases z : k < 2 ∧ (sr (kL k - 1 - i) = 1 ∨ sr (kL k - 1 - i) = 2)
    · rw [if_pos z]
      have hH : kH k = 3 := by
        have : k = 0 ∨ k = 1 := by omega
        rcases this with rfl | rfl <;> rfl
      rcases z.2 with y | y
      · rw [y]; exact Or.inr ⟨2, by omega, rfl⟩
      · rw [y]; exact Or.inr ⟨1, by omega, rfl⟩
    · rw [if_neg z]; exact h _ (by omega)
theorem op_parse {k : Nat} {key : Gf} {fm c m tm mn tt tn lm mk rt th : Int32} {fe ff flo fn fpw fsl fsy lost sn wd fE fT fM fwd fb fg fl fp sr fw : Nat → Int32} {td rd : Nat → Int64}
    (hk : k < 4) (hst : St fE fT fM) (hpw : Rp (kn k) fpw (Xp (kn k))) (hwd : Wd k fwd) (hfb : Wd k fb) (hK : Ky k fm key) (hS : RS k c m sn sr) (hT : RT k rt td rd) (hQ : RQ k lm mk) (hU : RU tt tn) (hE : tm = mn) :
    ∃ (ans c' m' tm' tt' lm' rt' : Int32) (fe' ff' flo' fn' fsl' fsy' lost' sn' wd' fg' fl' fp' fw' : Nat → Int32) (td' rd' : Nat → Int64),
      im_X4_parse c tm tt lm (nI (kn k)) (nI (kR k)) (nI k) (nI (kR k)) (nI (kn k)) (nI (kL k)) (kh k) (nI (kB k)) (nI (kS k)) (Gi key) (kR k) (kR k + 1) (kR k + 1) (kR k + 1) (kn k) (kR k) (kR k) (kn k) 200 (kF k) (kn k) 4 4 4 (kF k) fe ff flo fn fpw fsl fsy lost sn td wd fE fT fM fwd = some (ans, lm', c', tm', tt', fe', ff', flo', fn', fsl', fsy', lost', sn', td', wd') ∧
      im_X5_parse th (nI k) fm (nI (kF k)) (nI (kR k)) (nI (kn k)) m rt mn mk tn 4 22 72 8 200 4 22 fb fg fl fp sr rd fw = some (ans, m', lm', tm', rt', 0, tt', fg', fl', fp', rd', fw') ∧
      RS k c' m' sn' sr ∧ RT k rt' td' rd' ∧ RQ k lm' lm' ∧ RU tt' tt' := by
  obtain ⟨b1, b2, b3, b4, b5, b6, b7, b8, b9, b10, b11, b12, b13, b14, b15⟩ := kp k hk
  obtain ⟨c0, hc0, hc, hm, hsr⟩ := hS
  obtain ⟨hQ1, hQ2⟩ := hQ
  obtain ⟨hU1, hU2⟩ := hU
  subst hQ1 hU1 hE hc hm
  by_cases hlen : c0 = kL k
  · -- it has the form's length
    have hsn : ∀ i, i < kL k → sn i = sr i := fun i hi => (hsr i (by omega)).1
    have hbar : ∀ i, i < kL k → sr i = -1 ∨ ∃ x, x ≤ kH k ∧ sr i = nI x := fun i hi => (hsr i (by omega)).2
    obtain ⟨o, ho⟩ : ∃ o, decide (fc k false sr (kL k) < fc k true sr (kL k)) = o := ⟨_, rfl⟩
    have hlook := f_looks hk hst hsn
    rw [ho] at hlook
    have hHb := ot_Hb hk hbar o
    -- what the class reads
    obtain ⟨s2, hs2, et⟩ : ∃ s2, (∀ i, i < kL k → s2 i = an k o sr i) ∧ ∀ K : Int32 → (Nat → Int32) → Option (Int32 × Int32 × Int32 × Int32 × Int32 × (Nat → Int32) × (Nat → Int32) × (Nat → Int32) × (Nat → Int32) × (Nat → Int32) × (Nat → Int32) × (Nat → Int32) × (Nat → Int32) × (Nat → Int64) × (Nat → Int32)), im_j2 K (fun K3 => im_b1 (im_X2_looksTurned (nI k) (nI (kL k)) (kh k) 200 4 4 sn fE fT) (fun v18 => if v18 = 0 then (K3 v18 sn) else im_b1 (im_X2_turn (nI (kL k)) (kh k) 200 sn) (fun f19 => (K3 v18 f19)))) = K (ob o) s2 := by
      cases o with
      | false => exact ⟨sn, hsn, fun K => by rw [ev_j2, hlook, ev_b1]; exact if_pos rfl⟩
      | true =>
        obtain ⟨s', t1, t2⟩ := f_turn (s := sn) hk
        refine ⟨s', fun i hi => ?_, fun K => ?_⟩
        · rw [t2 i hi, hsn _ (by omega)]; rfl
        · rw [ev_j2, hlook, ev_b1, if_neg (show ¬ ob true = 0 by decide), t1, ev_b1]
    -- the mask
    obtain ⟨mm, x1, by_, hx, hby, em1, em2, hlm⟩ : ∃ (mm : Nat) (x1 by_ : Int32), (k = 2 → x1 = nI mm ∧ mm < 4) ∧ (k = 2 → by_ = nI mm ∧ mm < 4) ∧
        (∀ K : Int32 → Option (Int32 × Int32 × Int32 × Int32 × Int32 × (Nat → Int32) × (Nat → Int32) × (Nat → Int32) × (Nat → Int32) × (Nat → Int32) × (Nat → Int32) × (Nat → Int32) × (Nat → Int32) × (Nat → Int64) × (Nat → Int32)), im_j1 K (fun K5 => if nI k = (2 : Int32) then im_b1 (im_X3_nearestMask 200 4 s2 fM) (fun v17 => (K5 v17)) else (K5 (-1 : Int32))) = K x1) ∧
        (∀ K : Int32 → Int32 → Option (Int32 × Int32 × Int32 × Int32 × Int32 × Int32 × Int32 × (Nat → Int32) × (Nat → Int32) × (Nat → Int32) × (Nat → Int64) × (Nat → Int32)), im_j2 K (fun K8 => if nI k = (2 : Int32) then im_b1 (im_X5_maskOf (ob o) (nI k) (nI (kn k)) 200 sr) (fun v44 => (K8 (ob o) v44)) else (K8 (ob o) (0 : Int32))) = K (ob o) by_) ∧
        (k ≠ 2 → x1 = -1) := by
      by_cases z : k = 2
      · subst z
        have hb := bs_lt (fun mm => ds (an 2 o sr) mm 4) 4
        refine ⟨bs (fun mm => ds (an 2 o sr) mm 4) 4, nI (bs (fun mm => ds (an 2 o sr) mm 4) 4), nI (bs (fun mm => ds (an 2 o sr) mm 4) 4), fun _ => ⟨rfl, by omega⟩, fun _ => ⟨rfl, by omega⟩, fun K => ?_, fun K => ?_, fun h => absurd rfl h⟩
        · rw [ev_j1, if_pos (by decide), f_near hst hs2, ev_b1]
        · rw [ev_j2, if_pos (by decide), show im_X5_maskOf (ob o) (nI 2) (nI (kn 2)) 200 sr = _ from g_mask, ev_b1]
      · exact ⟨0, -1, 0, fun y => absurd y z, fun y => absurd y z, fun K => by rw [ev_j1, if_neg (fun y => z ((k_2 hk).1 y))], fun K => by rw [ev_j2, if_neg (fun y => z ((k_2 hk).1 y))], fun _ => rfl⟩
    obtain ⟨w1, l1, p1, p2, p3⟩ := f_takeW (key := key) (fw := wd) (fl := lost) hk hx hHb hs2
    obtain ⟨g1, w2, q1, q2, q3⟩ := g_takeA (key := key) (fg := fg) (fw := fw) hk hby hHb hK
    obtain ⟨r1, w3, e1, e2, e3, e4, e5, e6, s1, _, s3, s4⟩ := f_mend (n := kn k) (R := kR k) (N0 := kn k) (N1 := kn k) (NP := kn k) (fe := fe) (ff := ff) (fl := flo) (fn := fn) (fsl := fsl) (fsy := fsy) (by omega) b2 p2 p3 hpw (Nat.le_refl _) (Nat.le_refl _) (Nat.le_refl _) (by omega) (by omega) (by omega)
    obtain ⟨r2, l2, pl2, w4, t1, _, t3, t4⟩ := g_mend (fl := fl) (fp := fp) (by omega) b2 b3 q3 q2
    -- the frames as the reference counts them
    have hfr : ∀ K : Int32 → Option (Int32 × Int32 × Int32 × Int32 × Int32 × Int32 × Int32 × (Nat → Int32) × (Nat → Int32) × (Nat → Int32) × (Nat → Int64) × (Nat → Int32)), im_j1 K (fun K5 => im_b1 (im_X5_frames (1 : Int32) (nI k) (nI (kn k)) 200 sr) (fun v45 => im_b1 (im_X5_frames (0 : Int32) (nI k) (nI (kn k)) 200 sr) (fun v46 => if v45 ≤ v46 then (K5 (0 : Int32)) else (K5 (1 : Int32))))) = K (ob o) := by
      intro K
      have hb1 := fc_b k true sr (kL k)
      have hb2 := fc_b k false sr (kL k)
      rw [ev_j1, show im_X5_frames (1 : Int32) (nI k) (nI (kn k)) 200 sr = _ from g_frames (o := true) hk, ev_b1, show im_X5_frames (0 : Int32) (nI k) (nI (kn k)) 200 sr = _ from g_frames (o := false) hk, ev_b1, ← ho]
      by_cases z : fc k false sr (kL k) < fc k true sr (kL k)
      · rw [if_neg (nI_ge z (by omega)), decide_eq_true z]; rfl
      · rw [if_pos (nI_le (by omega) (by omega)), decide_eq_false z]; rfl
    by_cases hex : ∃ cw, Nr (kn k) (kR k) (tw k mm key (an k o sr)) (fun s => els k (an k o sr) s (kS k)) cw
    · obtain ⟨cw, hcw⟩ := hex
      obtain ⟨u1, u2⟩ := s3 cw hcw
      obtain ⟨v1, v2⟩ := t3 cw hcw
      have hne : ¬ r1 = -1 := by
        intro y
        have h1 := hcw.2
        have h2 : (0 : Int32) ≤ r1 := by rw [u1]; exact nI_pos' (by omega)
        rw [y] at h2
        exact absurd h2 (by decide)
      have hne2 : ¬ r2 = -1 := by rw [v1, ← u1]; exact hne
      obtain ⟨td2, x3, x4⟩ := f_takeF (ft := td) u2 hwd (fun f hf => km6 k hk f hf) b8 (k := kn k - kR k) (by omega) (by omega) b4
      obtain ⟨rd2, x5, x6⟩ := g_takeF (ft := rd) v2 hfb (fun f hf => km6 k hk f hf) b8 (k := kn k - kR k) (by omega) (by omega) b4
      refine ⟨nI (kF k), 0, 0, r1, ob o, x1, 1, e1, e2, e3, e4, e5, e6, l1, s2, w3, g1, l2, pl2, w4, td2, rd2, ?_, ?_, ⟨0, by omega, rfl, rfl, fun i hi => by omega⟩, Or.inr ⟨rfl, fun f hf => (x4 f hf).trans (x6 f hf).symm⟩, ⟨rfl, hlm⟩, rfl, by cases o <;> decide⟩
      · rw [im_X4_parse, if_pos (by rw [hlen])]
        refine (et _).trans ?_
        refine (em1 _).trans ?_
        rw [p1, ev_b2, s1, ev_b8, if_neg hne, x3, ev_b1, ev_as (by cases o <;> decide)]
      · rw [im_X5_parse, ev_j2, len_g k hk, ev_b1, if_pos (by rw [hlen])]
        show (if (1 : Int32) = 0 then _ else _) = _
        rw [if_neg (by decide)]
        refine (hfr _).trans ?_
        refine (em2 _).trans ?_
        rw [q1, ev_b2, t1, ev_b4, if_neg hne2, ev_j4, ev_as (by cases o <;> decide)]
        have hr : r2 = r1 := v1.trans u1.symm
        by_cases z : k = 2
        · rw [if_pos ((k_2 hk).2 z)]
          show im_j1 _ _ = _
          rw [ev_j1, x5, hr, show by_ = x1 by rw [(hby z).1, (hx z).1]]
        · rw [if_neg (fun y => z ((k_2 hk).1 y))]
          show im_j1 _ _ = _
          rw [ev_j1, x5, hr, hlm z, hQ2 z]
    · have hno : ∀ cw, ¬ Nr (kn k) (kR k) (tw k mm key (an k o sr)) (fun s => els k (an k o sr) s (kS k)) cw := fun cw h => hex ⟨cw, h⟩
      have u1 := s4 hno
      have v1 := t4 hno
      refine ⟨-1, 0, 0, tm, tt, lm, rt, e1, e2, e3, e4, e5, e6, l1, s2, w3, g1, l2, pl2, w4, td, rd, ?_, ?_, ⟨0, by omega, rfl, rfl, fun i hi => by omega⟩, hT, ⟨rfl, hQ2⟩, rfl, hU2⟩
      · rw [im_X4_parse, if_pos (by rw [hlen])]
        refine (et _).trans ?_
        refine (em1 _).trans ?_
        rw [p1, ev_b2, s1, ev_b8, if_pos u1]
      · rw [im_X5_parse, ev_j2, len_g k hk, ev_b1, if_pos (by rw [hlen])]
        show (if (1 : Int32) = 0 then _ else _) = _
        rw [if_neg (by decide)]
        refine (hfr _).trans ?_
        refine (em2 _).trans ?_
        rw [q1, ev_b2, t1, ev_b4, if_pos v1]
  · refine ⟨-1, 0, 0, tm, tt, lm, rt, fe, ff, flo, fn, fsl, fsy, lost, sn, wd, fg, fl, fp, fw, td, rd, ?_, ?_, ⟨0, by omega, rfl, rfl, fun i hi => by omega⟩, hT, ⟨rfl, hQ2⟩, rfl, hU2⟩
    · rw [im_X4_parse, if_neg (fun y => hlen ((nI_eq (by omega) (by omega)).1 y))]
    · rw [im_X5_parse, ev_j2, len_g k hk, ev_b1, if_neg (fun y => hlen ((nI_eq (by omega) (by omega)).1 y))]
      show (if (0 : Int32) = 0 then _ else _) = _
      rw [if_pos rfl]
