def im_X1_product_L7 (x1 : Int32) : Nat → Int32 → Int32 → Int32 → Option (Int32)
  | 0, _, _, _ => none
  | n + 1, v1, v2, v3 => if (6 : Int32) ≤ v3 then (some v1) else im_j1 (fun (v5 : Int32) => im_j1 (fun (v7 : Int32) => im_lt (v3 + (1 : Int32)) (fun v9 => (im_X1_product_L7 x1 n v5 v7 v9))) (fun K8 => im_lt (v2 <<< ((1 : Int32) &&& 31)) (fun v10 => if v10 ≤ (63 : Int32) then (K8 v10) else im_lt (v10 ^^^ (67 : Int32)) (fun v11 => (K8 v11))))) (fun K6 => im_lt (x1 >>> (v3 &&& 31)) (fun v12 => im_lt (v12 &&& (1 : Int32)) (fun v13 => if v13 = 0 then (K6 v1) else im_lt (v1 ^^^ v2) (fun v14 => (K6 v14)))))
def im_X1_product (x0 : Int32) (x1 : Int32) : Option (Int32) := (im_X1_product_L7 x1 5000 (0 : Int32) x0 (0 : Int32))
abbrev rm_X1_product : Room := { frames := 0, cells := 0, slots := 0, locals := 0 }
set_option maxHeartbeats 4000000 in
set_option maxRecDepth 100000 in
theorem c_X1_product (l : Launch) (x0 : Int32) (x1 : Int32) {r : Int32} (h : im_X1_product x0 x1 = some r) : Met l yX1_product wsX1_product rm_X1_product (va_Pc [.int x0, .int x1] (fun U => True)) (vp_Si (fun r9 => r9 = r)) 0 0 (fun _ => False) := by
  refine Met.ofW (cc := cX1_product) (maxL := 5) (ret := (some .int)) (by decide) rfl ?_
  intro p e s m args below meth c s₁ B hml hv
  obtain ⟨eargs, -⟩ := hv
  have hx := B.exec
  have hb := B.bytes
  have hr := B.returns
  have hts := atoms_spec (ws := wsX1_product) B.pre
  have hown : s.vm.findClass RX1 = some m.cls := findClass_of_methodNamed B.named
  have hlocks := B.notSynchronized
  refine im_Q (fun Q eQ => ?_)
  have hl := lv_entry [.int x0, .int x1] (n := 5) (Nat.le_of_ble_eq_true rfl)
  rw [show entryFrame m args 5 = entryFrame m ([.int x0, .int x1] : List Value).toArray 5 by rw [eargs], lg_entry_eq]
  generalize (lg_sl ([.int x0, .int x1]) ++ List.replicate (5 - (lg_sl ([.int x0, .int x1])).length) Slot.unset).toArray = ls at hl ⊢
  have hl : lv_has ls 5 [(0, .int x0), (1, .int x1)] := hl
  rw [im_X1_product] at h
  refine lv_iconst (v := (0 : Int32)) hx hb dX1_product_0 (by decide) ?_
  refine lv_istore_n (lv' := [(2, .int (0 : Int32)), (0, .int x0), (1, .int x1)]) hx hb dX1_product_1 rfl hl (by decide) rfl (fun ls hl => ?_)
  refine lv_iload_n hx hb dX1_product_2 rfl (lv_at hl 1 rfl) ?_
  refine lv_istore_n (lv' := [(3, .int x0), (2, .int (0 : Int32)), (0, .int x0), (1, .int x1)]) hx hb dX1_product_3 rfl hl (by decide) rfl (fun ls hl => ?_)
  refine lv_iconst (v := (0 : Int32)) hx hb dX1_product_4 (by decide) ?_
  refine lv_istore (lv' := [(4, .int (0 : Int32)), (3, .int x0), (2, .int (0 : Int32)), (0, .int x0), (1, .int x1)]) hx hb dX1_product_5 hl (by decide) rfl (fun ls hl => ?_)
  have Lp4 : ∀ (n : Nat) (v1 : Int32) (v2 : Int32) (v3 : Int32), im_X1_product_L7 x1 n v1 v2 v3 = some r → ∀ (ls : Array Slot), lv_has ls 5 [(1, .int x1), (2, .int v1), (3, .int v2), (4, .int v3)] → W p l e (headSpec wsX1_product rm_X1_product).room s m args below meth c s.heap [] 0 0 Q (F0 m 7 ls []) := by
    intro n
    induction n with
    | zero => intro v1 v2 v3 h; rw [im_X1_product_L7] at h; cases h
    | succ n ih =>
      intro v1 v2 v3 h ls hl
      rw [im_X1_product_L7] at h
      refine lv_iload hx hb dX1_product_7 (lv_at hl 3 rfl) ?_
      refine lv_bipush (v := (6 : Int32)) hx hb dX1_product_9 (by decide) ?_
      refine lv_icmp_ge (tgt := 48) hx hb dX1_product_11 (by decide) (fun c11 => ?_) (fun c11 => ?_)
      · replace h := im_t c11 h
        refine lv_iload_n hx hb dX1_product_48 rfl (lv_at hl 1 rfl) ?_
        rw [eQ]
        exact W.iret (v := v1) hx hb hr (fun t ht hW => ⟨_, rfl, Option.some.inj h, ht⟩) (fun _ h9 => by cases h9) dX1_product_49
      · replace h := im_f c11 h
        refine im_j1_u (P := fun v5 => ∀ (ls : Array Slot), lv_has ls 5 [(1, .int x1), (2, .int v5), (3, .int v2), (4, .int v3)] → W p l e (headSpec wsX1_product rm_X1_product).room s m args below meth c s.heap [] 0 0 Q (F0 m 27 ls [])) h (fun v5 h ls hl => ?_) (fun K6 J6 h => ?_)
        · refine im_j1_u (P := fun v7 => ∀ (ls : Array Slot), lv_has ls 5 [(1, .int x1), (2, .int v5), (3, .int v7), (4, .int v3)] → W p l e (headSpec wsX1_product rm_X1_product).room s m args below meth c s.heap [] 0 0 Q (F0 m 42 ls [])) h (fun v7 h ls hl => ?_) (fun K8 J8 h => ?_)
          · obtain ⟨v9, ev9⟩ : ∃ y : Int32, y = (v3 + (1 : Int32)) := ⟨_, rfl⟩
            replace h := im_lt_u h v9 ev9
            refine lv_iinc (v := v9) (lv' := [(4, .int v9), (1, .int x1), (2, .int v5), (3, .int v7)]) hx hb dX1_product_42 hl (k := 3) rfl (by rw [ev9]; rfl) (by decide) rfl (fun ls hl => ?_)
            refine lv_goto (tgt := 7) hx hb dX1_product_45 (by decide) ?_
            exact ih v5 v7 v9 h _ (lv_sub hl [1, 2, 3, 0] rfl)
          · refine lv_iload_n hx hb dX1_product_27 rfl (lv_at hl 2 rfl) ?_
            refine lv_iconst (v := (1 : Int32)) hx hb dX1_product_28 (by decide) ?_
            refine lv_ishl hx hb dX1_product_29 ?_
            refine lv_topi (fun v10 ev10 => ?_)
            replace h := im_lt_u h v10 ev10
            refine lv_istore_n (lv' := [(3, .int v10), (1, .int x1), (2, .int v5), (4, .int v3)]) hx hb dX1_product_30 rfl hl (by decide) rfl (fun ls hl => ?_)
            refine lv_iload_n hx hb dX1_product_31 rfl (lv_at hl 0 rfl) ?_
            refine lv_bipush (v := (63 : Int32)) hx hb dX1_product_32 (by decide) ?_
            refine lv_icmp_le (tgt := 42) hx hb dX1_product_34 (by decide) (fun c34 => ?_) (fun c34 => ?_)
            · replace h := im_t c34 h
              exact J8 v10 h _ (lv_sub hl [1, 2, 0, 3] rfl)
            · replace h := im_f c34 h
              refine lv_iload_n hx hb dX1_product_37 rfl (lv_at hl 0 rfl) ?_
              refine lv_bipush (v := (67 : Int32)) hx hb dX1_product_38 (by decide) ?_
              refine lv_ixor hx hb dX1_product_40 ?_
              refine lv_topi (fun v11 ev11 => ?_)
              replace h := im_lt_u h v11 ev11
              refine lv_istore_n (lv' := [(3, .int v11), (1, .int x1), (2, .int v5), (4, .int v3)]) hx hb dX1_product_41 rfl hl (by decide) rfl (fun ls hl => ?_)
              exact J8 v11 h _ (lv_sub hl [1, 2, 0, 3] rfl)
        · refine lv_iload_n hx hb dX1_product_14 rfl (lv_at hl 0 rfl) ?_
          refine lv_iload hx hb dX1_product_15 (lv_at hl 3 rfl) ?_
          refine lv_ishr hx hb dX1_product_17 ?_
          refine lv_topi (fun v12 ev12 => ?_)
          replace h := im_lt_u h v12 ev12
          refine lv_iconst (v := (1 : Int32)) hx hb dX1_product_18 (by decide) ?_
          refine lv_iand hx hb dX1_product_19 ?_
          refine lv_topi (fun v13 ev13 => ?_)
          replace h := im_lt_u h v13 ev13
          refine lv_if_eq (tgt := 27) hx hb dX1_product_20 (by decide) (fun c20 => ?_) (fun c20 => ?_)
          · replace h := im_t c20 h
            exact J6 v1 h _ (lv_sub hl [0, 1, 2, 3] rfl)
          · replace h := im_f c20 h
            refine lv_iload_n hx hb dX1_product_23 rfl (lv_at hl 1 rfl) ?_
            refine lv_iload_n hx hb dX1_product_24 rfl (lv_at hl 2 rfl) ?_
            refine lv_ixor hx hb dX1_product_25 ?_
            refine lv_topi (fun v14 ev14 => ?_)
            replace h := im_lt_u h v14 ev14
            refine lv_istore_n (lv' := [(2, .int v14), (1, .int x1), (3, .int v2), (4, .int v3)]) hx hb dX1_product_26 rfl hl (by decide) rfl (fun ls hl => ?_)
            exact J6 v14 h _ (lv_sub hl [1, 0, 2, 3] rfl)
  exact Lp4 5000 (0 : Int32) x0 (0 : Int32) h _ (lv_sub hl [4, 2, 1, 0] rfl)
def im_X1_inverse_L6  : Nat → Int32 → Int32 → Int32 → Option (Int32)
  | 0, _, _, _ => none
  | n + 1, v1, v2, v3 => if (6 : Int32) ≤ v3 then (some v1) else im_b1 (im_X1_product v2 v2) (fun v5 => im_b1 (im_X1_product v1 v5) (fun v6 => im_lt (v3 + (1 : Int32)) (fun v7 => (im_X1_inverse_L6 n v6 v5 v7))))
def im_X1_inverse (x0 : Int32) : Option (Int32) := (im_X1_inverse_L6 5000 (1 : Int32) x0 (1 : Int32))
abbrev rm_X1_inverse : Room := { frames := 1, cells := 0, slots := 0, locals := 24 }
set_option maxHeartbeats 4000000 in
set_option maxRecDepth 100000 in
theorem c_X1_inverse (l : Launch) (x0 : Int32) {r : Int32} (h : im_X1_inverse x0 = some r) : Met l yX1_inverse wsX1_inverse rm_X1_inverse (va_Pc [.int x0] (fun U => True)) (vp_Si (fun r9 => r9 = r)) 0 0 (fun _ => False) := by
  refine Met.ofW (cc := cX1_inverse) (maxL := 4) (ret := (some .int)) (by decide) rfl ?_
  intro p e s m args below meth c s₁ B hml hv
  obtain ⟨eargs, -⟩ := hv
  have hx := B.exec
  have hb := B.bytes
  have hr := B.returns
  have hts := atoms_spec (ws := wsX1_inverse) B.pre
  have hown : s.vm.findClass RX1 = some m.cls := findClass_of_methodNamed B.named
  have hlocks := B.notSynchronized
  refine im_Q (fun Q eQ => ?_)
  have hl := lv_entry [.int x0] (n := 4) (Nat.le_of_ble_eq_true rfl)
  rw [show entryFrame m args 4 = entryFrame m ([.int x0] : List Value).toArray 4 by rw [eargs], lg_entry_eq]
  generalize (lg_sl ([.int x0]) ++ List.replicate (4 - (lg_sl ([.int x0])).length) Slot.unset).toArray = ls at hl ⊢
  have hl : lv_has ls 4 [(0, .int x0)] := hl
  rw [im_X1_inverse] at h
  refine lv_iconst (v := (1 : Int32)) hx hb dX1_inverse_0 (by decide) ?_
  refine lv_istore_n (lv' := [(1, .int (1 : Int32)), (0, .int x0)]) hx hb dX1_inverse_1 rfl hl (by decide) rfl (fun ls hl => ?_)
  refine lv_iload_n hx hb dX1_inverse_2 rfl (lv_at hl 1 rfl) ?_
  refine lv_istore_n (lv' := [(2, .int x0), (1, .int (1 : Int32)), (0, .int x0)]) hx hb dX1_inverse_3 rfl hl (by decide) rfl (fun ls hl => ?_)
  refine lv_iconst (v := (1 : Int32)) hx hb dX1_inverse_4 (by decide) ?_
  refine lv_istore_n (lv' := [(3, .int (1 : Int32)), (2, .int x0), (1, .int (1 : Int32)), (0, .int x0)]) hx hb dX1_inverse_5 rfl hl (by decide) rfl (fun ls hl => ?_)
  have Lp4 : ∀ (n : Nat) (v1 : Int32) (v2 : Int32) (v3 : Int32), im_X1_inverse_L6 n v1 v2 v3 = some r → ∀ (ls : Array Slot), lv_has ls 4 [(1, .int v1), (2, .int v2), (3, .int v3)] → W p l e (headSpec wsX1_inverse rm_X1_inverse).room s m args below meth c s.heap [] 0 0 Q (F0 m 6 ls []) := by
    intro n
    induction n with
    | zero => intro v1 v2 v3 h; rw [im_X1_inverse_L6] at h; cases h
    | succ n ih =>
      intro v1 v2 v3 h ls hl
      rw [im_X1_inverse_L6] at h
      refine lv_iload_n hx hb dX1_inverse_6 rfl (lv_at hl 2 rfl) ?_
      refine lv_bipush (v := (6 : Int32)) hx hb dX1_inverse_7 (by decide) ?_
      refine lv_icmp_ge (tgt := 30) hx hb dX1_inverse_9 (by decide) (fun c9 => ?_) (fun c9 => ?_)
      · replace h := im_t c9 h
        refine lv_iload_n hx hb dX1_inverse_30 rfl (lv_at hl 0 rfl) ?_
        rw [eQ]
        exact W.iret (v := v1) hx hb hr (fun t ht hW => ⟨_, rfl, Option.some.inj h, ht⟩) (fun _ h9 => by cases h9) dX1_inverse_31
      · replace h := im_f c9 h
        refine lv_iload_n hx hb dX1_inverse_12 rfl (lv_at hl 1 rfl) ?_
        refine lv_iload_n hx hb dX1_inverse_13 rfl (lv_at hl 1 rfl) ?_
        obtain ⟨v5, y14, h⟩ := im_b1_u h
        refine vp_callSi (W.runS (As := [.int v2, .int v2]) (rest := []) ⟨hx, hb, hml, hown, hts⟩ (c_X1_product l v2 v2 y14) (va_cwS 2 hts gX1_inverse_X1_product rfl rfl rfl (by decide +kernel) ⟨Nat.le_of_ble_eq_true rfl, Nat.le_of_ble_eq_true rfl⟩) ⟨fun _ _ _ _ q => q, fun U hU hW => ⟨rfl, trivial⟩⟩ rfl rfl hl.1 rfl (lv_room (Nat.le_of_ble_eq_true rfl)) dX1_inverse_14 ⟨Nat.zero_le _, Nat.zero_le _⟩) (fun w14 ew14 => ?_)
        have ew14 := ew14.symm
        subst ew14
        refine lv_istore_n (lv' := [(2, .int v5), (1, .int v1), (3, .int v3)]) hx hb dX1_inverse_17 rfl hl (by decide) rfl (fun ls hl => ?_)
        refine lv_iload_n hx hb dX1_inverse_18 rfl (lv_at hl 1 rfl) ?_
        refine lv_iload_n hx hb dX1_inverse_19 rfl (lv_at hl 0 rfl) ?_
        obtain ⟨v6, y20, h⟩ := im_b1_u h
        refine vp_callSi (W.runS (As := [.int v1, .int v5]) (rest := []) ⟨hx, hb, hml, hown, hts⟩ (c_X1_product l v1 v5 y20) (va_cwS 2 hts gX1_inverse_X1_product rfl rfl rfl (by decide +kernel) ⟨Nat.le_of_ble_eq_true rfl, Nat.le_of_ble_eq_true rfl⟩) ⟨fun _ _ _ _ q => q, fun U hU hW => ⟨rfl, trivial⟩⟩ rfl rfl hl.1 rfl (lv_room (Nat.le_of_ble_eq_true rfl)) dX1_inverse_20 ⟨Nat.zero_le _, Nat.zero_le _⟩) (fun w20 ew20 => ?_)
        have ew20 := ew20.symm
        subst ew20
        refine lv_istore_n (lv' := [(1, .int v6), (2, .int v5), (3, .int v3)]) hx hb dX1_inverse_23 rfl hl (by decide) rfl (fun ls hl => ?_)
        obtain ⟨v7, ev7⟩ : ∃ y : Int32, y = (v3 + (1 : Int32)) := ⟨_, rfl⟩
        replace h := im_lt_u h v7 ev7
        refine lv_iinc (v := v7) (lv' := [(3, .int v7), (1, .int v6), (2, .int v5)]) hx hb dX1_inverse_24 hl (k := 2) rfl (by rw [ev7]; rfl) (by decide) rfl (fun ls hl => ?_)
        refine lv_goto (tgt := 6) hx hb dX1_inverse_27 (by decide) ?_
        exact ih v6 v5 v7 h _ (lv_sub hl [1, 2, 0] rfl)
  exact Lp4 5000 (1 : Int32) x0 (1 : Int32) h _ (lv_sub hl [2, 1, 0] rfl)
def im_X1_valueAt_L7 (x0 : Int32) (n_p1 : Nat) (f_p1 : Nat → Int32) : Nat → Int32 → Int32 → Option (Int32)
  | 0, _, _ => none
  | n + 1, v2, v3 => if v3 < 0 then (some v2) else im_b1 (im_X1_product v2 x0) (fun v5 => im_ld n_p1 f_p1 v3 (fun v6 => im_lt (v5 ^^^ v6) (fun v7 => im_lt (v3 + (-1 : Int32)) (fun v8 => (im_X1_valueAt_L7 x0 n_p1 f_p1 n v7 v8)))))
def im_X1_valueAt (x0 : Int32) (n_p1 : Nat) (f_p1 : Nat → Int32) : Option (Int32) := im_lt ((nI n_p1) - (1 : Int32)) (fun v1 => (im_X1_valueAt_L7 x0 n_p1 f_p1 5000 (0 : Int32) v1))
abbrev rm_X1_valueAt : Room := { frames := 1, cells := 0, slots := 0, locals := 24 }
set_option maxHeartbeats 4000000 in
set_option maxRecDepth 100000 in
theorem c_X1_valueAt (l : Launch) (dC : Nat → ClassId) (dI : Nat → Nat → Nat) (cI cJ cZ : ClassId) (a_p1 : Nat) (n_p1 : Nat) (f_p1 : Nat → Int32) (x0 : Int32) {r : Int32} (h : im_X1_valueAt x0 n_p1 f_p1 = some r) : Met l yX1_valueAt wsX1_valueAt rm_X1_valueAt (va_Pc [.int x0, .ref a_p1] (fun U => va_P (dC, dI) vwCl [(a_p1, .inl (cI, n_p1, .inl f_p1))] U.heap ∧ va_K (dC, dI) vwCl [(cI, .int), (cJ, .long), (cZ, .boolean)] U)) (vp_Si (fun r9 => r9 = r)) 0 0 (fun _ => False) := by
  refine Met.ofW (cc := cX1_valueAt) (maxL := 4) (ret := (some .int)) (by decide) rfl ?_
  intro p e s m args below meth c s₁ B hml hv
  obtain ⟨eargs, hP, hK⟩ := hv
  have hx := B.exec
  have hb := B.bytes
  have hr := B.returns
  have hts := atoms_spec (ws := wsX1_valueAt) B.pre
  have hown : s.vm.findClass RX1 = some m.cls := findClass_of_methodNamed B.named
  have hlocks := B.notSynchronized
  refine im_Q (fun Q eQ => ?_)
  have hl := lv_entry [.int x0, .ref a_p1] (n := 4) (Nat.le_of_ble_eq_true rfl)
  rw [show entryFrame m args 4 = entryFrame m ([.int x0, .ref a_p1] : List Value).toArray 4 by rw [eargs], lg_entry_eq]
  generalize (lg_sl ([.int x0, .ref a_p1]) ++ List.replicate (4 - (lg_sl ([.int x0, .ref a_p1])).length) Slot.unset).toArray = ls at hl ⊢
  have hl : lv_has ls 4 [(0, .int x0), (1, .ref a_p1)] := hl
  rw [im_X1_valueAt] at h
  refine lv_iconst (v := (0 : Int32)) hx hb dX1_valueAt_0 (by decide) ?_
  refine lv_istore_n (lv' := [(2, .int (0 : Int32)), (0, .int x0), (1, .ref a_p1)]) hx hb dX1_valueAt_1 rfl hl (by decide) rfl (fun ls hl => ?_)
  refine lv_aload_n hx hb dX1_valueAt_2 rfl (lv_at hl 2 rfl) ?_
  refine va_alen hx hb hK hP 0 0 rfl rfl (v := nI n_p1) rfl dX1_valueAt_3 ?_
  refine lv_iconst (v := (1 : Int32)) hx hb dX1_valueAt_4 (by decide) ?_
  refine lv_isub hx hb dX1_valueAt_5 ?_
  refine lv_topi (fun v1 ev1 => ?_)
  replace h := im_lt_u h v1 ev1
  refine lv_istore_n (lv' := [(3, .int v1), (2, .int (0 : Int32)), (0, .int x0), (1, .ref a_p1)]) hx hb dX1_valueAt_6 rfl hl (by decide) rfl (fun ls hl => ?_)
  have Lp4 : ∀ (n : Nat) (v2 : Int32) (v3 : Int32), im_X1_valueAt_L7 x0 n_p1 f_p1 n v2 v3 = some r → ∀ (ls : Array Slot), lv_has ls 4 [(0, .int x0), (1, .ref a_p1), (2, .int v2), (3, .int v3)] → W p l e (headSpec wsX1_valueAt rm_X1_valueAt).room s m args below meth c s.heap [] 0 0 Q (F0 m 7 ls []) := by
    intro n
    induction n with
    | zero => intro v2 v3 h; rw [im_X1_valueAt_L7] at h; cases h
    | succ n ih =>
      intro v2 v3 h ls hl
      rw [im_X1_valueAt_L7] at h
      refine lv_iload_n hx hb dX1_valueAt_7 rfl (lv_at hl 3 rfl) ?_
      refine lv_if_lt (tgt := 27) hx hb dX1_valueAt_8 (by decide) (fun c8 => ?_) (fun c8 => ?_)
      · replace h := im_t c8 h
        refine lv_iload_n hx hb dX1_valueAt_27 rfl (lv_at hl 2 rfl) ?_
        rw [eQ]
        exact W.iret (v := v2) hx hb hr (fun t ht hW => ⟨_, rfl, Option.some.inj h, ht⟩) (fun _ h9 => by cases h9) dX1_valueAt_28
      · replace h := im_f c8 h
        refine lv_iload_n hx hb dX1_valueAt_11 rfl (lv_at hl 2 rfl) ?_
        refine lv_iload_n hx hb dX1_valueAt_12 rfl (lv_at hl 0 rfl) ?_
        obtain ⟨v5, y13, h⟩ := im_b1_u h
        refine vp_callSi (W.runS (As := [.int v2, .int x0]) (rest := []) ⟨hx, hb, hml, hown, hts⟩ (c_X1_product l v2 x0 y13) (va_cwS 2 hts gX1_valueAt_X1_product rfl rfl rfl (by decide +kernel) ⟨Nat.le_of_ble_eq_true rfl, Nat.le_of_ble_eq_true rfl⟩) ⟨fun _ _ _ _ q => q, fun U hU hW => ⟨rfl, trivial⟩⟩ rfl rfl hl.1 rfl (lv_room (Nat.le_of_ble_eq_true rfl)) dX1_valueAt_13 ⟨Nat.zero_le _, Nat.zero_le _⟩) (fun w13 ew13 => ?_)
        have ew13 := ew13.symm
        subst ew13
        refine lv_aload_n hx hb dX1_valueAt_16 rfl (lv_at hl 1 rfl) ?_
        refine lv_iload_n hx hb dX1_valueAt_17 rfl (lv_at hl 3 rfl) ?_
        obtain ⟨q18, h⟩ := im_ld_u h
        refine va_iald hx hb hK hP 0 0 rfl rfl q18 dX1_valueAt_18 ?_
        refine lv_topi (fun v6 ev6 => ?_)
        replace h := h v6 ev6
        refine lv_ixor hx hb dX1_valueAt_19 ?_
        refine lv_topi (fun v7 ev7 => ?_)
        replace h := im_lt_u h v7 ev7
        refine lv_istore_n (lv' := [(2, .int v7), (0, .int x0), (1, .ref a_p1), (3, .int v3)]) hx hb dX1_valueAt_20 rfl hl (by decide) rfl (fun ls hl => ?_)
        obtain ⟨v8, ev8⟩ : ∃ y : Int32, y = (v3 + (-1 : Int32)) := ⟨_, rfl⟩
        replace h := im_lt_u h v8 ev8
        refine lv_iinc (v := v8) (lv' := [(3, .int v8), (2, .int v7), (0, .int x0), (1, .ref a_p1)]) hx hb dX1_valueAt_21 hl (k := 3) rfl (by rw [ev8]; rfl) (by decide) rfl (fun ls hl => ?_)
        refine lv_goto (tgt := 7) hx hb dX1_valueAt_24 (by decide) ?_
        exact ih v7 v8 h _ (lv_sub hl [2, 3, 1, 0] rfl)
  exact Lp4 5000 (0 : Int32) v1 h _ (lv_sub hl [2, 3, 1, 0] rfl)
