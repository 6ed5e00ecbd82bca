theorem fs_in {n N : Nat} {f : Nat → Int32} {w : Nat → Gf} (hf : Rp n f w) (hN : n ≤ N) (hb : N < 1000) (K : Int32 → Option (Nat → Int32)) (r : Gf) :
    im_X0_fillSyndromes_L24 (nI n) K (Gi r) N f 5000 0 0 = K (Gi (hn w r n)) := by
  obtain ⟨s, hs, e⟩ := lp_up (fun g k s => im_X0_fillSyndromes_L24 (nI n) K (Gi r) N f g s k) K n (fun i s => s = Gi (hn w r i))
    (fun g s hs => by
      show im_X0_fillSyndromes_L24 (nI n) K (Gi r) N f (g + 1) s (nI n) = K s
      rw [im_X0_fillSyndromes_L24, if_pos (nI_le (Nat.le_refl n) (by omega))])
    (fun g i s hi hs => ⟨Gi (hn w r (i + 1)), rfl, by
      show im_X0_fillSyndromes_L24 (nI n) K (Gi r) N f (g + 1) s (nI i) = im_X0_fillSyndromes_L24 (nI n) K (Gi r) N f g (Gi (hn w r (i + 1))) (nI (i + 1))
      rw [im_X0_fillSyndromes_L24, if_neg (nI_ge hi (by omega)), hs, ar_prod, ev_b1, ev_ld (by omega) (by omega), ev_lt, ev_lt, hf i hi, Gi_xor, nI_1]
      rfl⟩) n 0 0 5000 (by omega) (by omega) rfl
  rw [show (0 : Int32) = nI 0 from rfl] at *
  rw [hs] at e
  exact e
