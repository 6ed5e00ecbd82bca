def im_X3_signBit (x0 : Int32) (x1 : Int32) (n_st_BarCodes_Square_MASK_SIGNS : Nat) (f_st_BarCodes_Square_MASK_SIGNS : Nat → Int32) : Option (Int32) := im_j0 ((some (0 : Int32))) (fun K1 => if x0 < 0 then (K1) else if x0 < (4 : Int32) then im_ld n_st_BarCodes_Square_MASK_SIGNS f_st_BarCodes_Square_MASK_SIGNS x0 (fun v2 => im_lt ((3 : Int32) - x1) (fun v3 => im_lt (v2 >>> (v3 &&& 31)) (fun v4 => im_lt (v4 &&& (1 : Int32)) (fun v5 => (some v5))))) else (K1))
abbrev rm_X3_signBit : Room := { frames := 0, cells := 0, slots := 0, locals := 0 }
theorem fl_X3_signBit_21 : Cond.fieldLink RX3 21 "BarCodes$Square" "MASK_SIGNS" "[I" ∈ wsX3_signBit := by decide +kernel
set_option maxHeartbeats 4000000 in
set_option maxRecDepth 100000 in
theorem c_X3_signBit (l : Launch) (dC : Nat → ClassId) (dI : Nat → Nat → Nat) (cI cJ cZ : ClassId) (a_st_BarCodes_Square_MASK_SIGNS : Nat) (n_st_BarCodes_Square_MASK_SIGNS : Nat) (f_st_BarCodes_Square_MASK_SIGNS : Nat → Int32) (x0 : Int32) (x1 : Int32) {r : Int32} (h : im_X3_signBit x0 x1 n_st_BarCodes_Square_MASK_SIGNS f_st_BarCodes_Square_MASK_SIGNS = some r) : Met l yX3_signBit wsX3_signBit rm_X3_signBit (va_Pc [.int x0, .int x1] (fun U => va_T .int a_st_BarCodes_Square_MASK_SIGNS n_st_BarCodes_Square_MASK_SIGNS (fun j => .int (f_st_BarCodes_Square_MASK_SIGNS j)) (fun _ => False) U U.heap ∧ va_Z "BarCodes$Square" "MASK_SIGNS" "[I" (.ref a_st_BarCodes_Square_MASK_SIGNS) (fun _ => False) U U.heap)) (vp_Si (fun r9 => r9 = r)) 0 0 (fun _ => False) := by
  refine Met.ofW (cc := cX3_signBit) (maxL := 2) (ret := (some .int)) (by decide) rfl ?_
  intro p e s m args below meth c s₁ B hml hv
  obtain ⟨eargs, hT_st_BarCodes_Square_MASK_SIGNS, hZ_st_BarCodes_Square_MASK_SIGNS⟩ := hv
  have hx := B.exec
  have hb := B.bytes
  have hr := B.returns
  have hts := atoms_spec (ws := wsX3_signBit) B.pre
  have hown : s.vm.findClass RX3 = some m.cls := findClass_of_methodNamed B.named
  have hlocks := B.notSynchronized
  refine im_Q (fun Q eQ => ?_)
  have hl := lv_entry [.int x0, .int x1] (n := 2) (Nat.le_of_ble_eq_true rfl)
  rw [show entryFrame m args 2 = entryFrame m ([.int x0, .int x1] : List Value).toArray 2 by rw [eargs], lg_entry_eq]
  generalize (lg_sl ([.int x0, .int x1]) ++ List.replicate (2 - (lg_sl ([.int x0, .int x1])).length) Slot.unset).toArray = ls at hl ⊢
  have hl : lv_has ls 2 [(0, .int x0), (1, .int x1)] := hl
  rw [im_X3_signBit] at h
  refine im_j0_u (P := ∀ (ls : Array Slot), lv_has ls 2 [] → W p l e (headSpec wsX3_signBit rm_X3_signBit).room s m args below meth c s.heap [] 0 0 Q (F0 m 9 ls [])) h (fun h ls hl => ?_) (fun K1 J1 h => ?_)
  · refine lv_iconst (v := (0 : Int32)) hx hb dX3_signBit_9 (by decide) ?_
    refine lv_goto (tgt := 24) hx hb dX3_signBit_10 (by decide) ?_
    rw [eQ]
    exact W.iret (v := (0 : Int32)) hx hb hr (fun t ht hW => ⟨_, rfl, Option.some.inj h, ht⟩) (fun _ h9 => by cases h9) dX3_signBit_24
  · refine lv_iload_n hx hb dX3_signBit_0 rfl (lv_at hl 0 rfl) ?_
    refine lv_if_lt (tgt := 9) hx hb dX3_signBit_1 (by decide) (fun c1 => ?_) (fun c1 => ?_)
    · replace h := im_t c1 h
      exact J1  h _ (lv_sub hl [] rfl)
    · replace h := im_f c1 h
      refine lv_iload_n hx hb dX3_signBit_4 rfl (lv_at hl 0 rfl) ?_
      refine lv_iconst (v := (4 : Int32)) hx hb dX3_signBit_5 (by decide) ?_
      refine lv_icmp_lt (tgt := 13) hx hb dX3_signBit_6 (by decide) (fun c6 => ?_) (fun c6 => ?_)
      · replace h := im_t c6 h
        refine va_gets hx hb hZ_st_BarCodes_Square_MASK_SIGNS (va_S.rf (A := fun _ => False)) hown (hts _ fl_X3_signBit_21) (fun _ h9 => h9) dX3_signBit_13 ?_
        refine lv_iload_n hx hb dX3_signBit_16 rfl (lv_at hl 0 rfl) ?_
        obtain ⟨q17, h⟩ := im_ld_u h
        refine va_ti hx hb hT_st_BarCodes_Square_MASK_SIGNS (va_S.rf (A := fun _ => False)) q17 (v := .int (f_st_BarCodes_Square_MASK_SIGNS x0.toNatClampNeg)) rfl dX3_signBit_17 ?_
        refine lv_topi (fun v2 ev2 => ?_)
        replace h := h v2 ev2
        refine lv_iconst (v := (3 : Int32)) hx hb dX3_signBit_18 (by decide) ?_
        refine lv_iload_n hx hb dX3_signBit_19 rfl (lv_at hl 1 rfl) ?_
        refine lv_isub hx hb dX3_signBit_20 ?_
        refine lv_topi (fun v3 ev3 => ?_)
        replace h := im_lt_u h v3 ev3
        refine lv_ishr hx hb dX3_signBit_21 ?_
        refine lv_topi (fun v4 ev4 => ?_)
        replace h := im_lt_u h v4 ev4
        refine lv_iconst (v := (1 : Int32)) hx hb dX3_signBit_22 (by decide) ?_
        refine lv_iand hx hb dX3_signBit_23 ?_
        refine lv_topi (fun v5 ev5 => ?_)
        replace h := im_lt_u h v5 ev5
        rw [eQ]
        exact W.iret (v := v5) hx hb hr (fun t ht hW => ⟨_, rfl, Option.some.inj h, ht⟩) (fun _ h9 => by cases h9) dX3_signBit_24
      · replace h := im_f c6 h
        exact J1  h _ (lv_sub hl [] rfl)
def im_X3_drawMask_L2 (x0 : Int32) (n_st_BarCodes_Square_MASK_SIGNS : Nat) (f_st_BarCodes_Square_MASK_SIGNS : Nat → Int32) (n_p1 : Nat) : Nat → Int32 → (Nat → Int32) → Option ((Nat → Int32))
  | 0, _, _ => none
  | n + 1, v1, f2 => if (4 : Int32) ≤ v1 then (some f2) else im_lt ((96 : Int32) + v1) (fun v4 => im_b1 (im_X3_placeOf v4) (fun v5 => im_b1 (im_X3_signBit x0 v1 n_st_BarCodes_Square_MASK_SIGNS f_st_BarCodes_Square_MASK_SIGNS) (fun v6 => im_st n_p1 f2 v5 v6 (fun f7 => im_lt (v1 + (1 : Int32)) (fun v8 => (im_X3_drawMask_L2 x0 n_st_BarCodes_Square_MASK_SIGNS f_st_BarCodes_Square_MASK_SIGNS n_p1 n v8 f7))))))
def im_X3_drawMask (x0 : Int32) (n_p1 : Nat) (n_st_BarCodes_Square_MASK_SIGNS : Nat) (f_p1 : Nat → Int32) (f_st_BarCodes_Square_MASK_SIGNS : Nat → Int32) : Option ((Nat → Int32)) := (im_X3_drawMask_L2 x0 n_st_BarCodes_Square_MASK_SIGNS f_st_BarCodes_Square_MASK_SIGNS n_p1 5000 (0 : Int32) f_p1)
abbrev rm_X3_drawMask : Room := { frames := 1, cells := 0, slots := 0, locals := 21 }
set_option maxHeartbeats 4000000 in
set_option maxRecDepth 100000 in
theorem c_X3_drawMask (l : Launch) (dC : Nat → ClassId) (dI : Nat → Nat → Nat) (cI cJ cZ : ClassId) (sz : Nat) (a_p1 a_st_BarCodes_Square_MASK_SIGNS : Nat) (n_p1 n_st_BarCodes_Square_MASK_SIGNS : Nat) (f_p1 : Nat → Int32) (f_st_BarCodes_Square_MASK_SIGNS : Nat → Int32) (x0 : Int32) {r : (Nat → Int32)} (h : im_X3_drawMask x0 n_p1 n_st_BarCodes_Square_MASK_SIGNS f_p1 f_st_BarCodes_Square_MASK_SIGNS = some r) : Met l yX3_drawMask wsX3_drawMask rm_X3_drawMask (va_Pc [.int x0, .ref a_p1] (fun U => U.heap.size = sz ∧ va_P (dC, dI) vwCl [(a_p1, .inl (cI, n_p1, .inl f_p1))] U.heap ∧ va_K (dC, dI) vwCl [(cI, .int), (cJ, .long), (cZ, .boolean)] U ∧ va_D (fun _ => True) [(a_p1, .inl (cI, n_p1, .inl f_p1))] ∧ va_T .int a_st_BarCodes_Square_MASK_SIGNS n_st_BarCodes_Square_MASK_SIGNS (fun j => .int (f_st_BarCodes_Square_MASK_SIGNS j)) (va_A [(a_p1, .inl (cI, n_p1, .inl f_p1))] sz) U U.heap ∧ va_Z "BarCodes$Square" "MASK_SIGNS" "[I" (.ref a_st_BarCodes_Square_MASK_SIGNS) (va_A [(a_p1, .inl (cI, n_p1, .inl f_p1))] sz) U U.heap)) (va_Qv (S := (Nat → Int32)) (fun u9 => u9 = r) (fun u9 t9 => va_P (dC, dI) vwCl [(a_p1, .inl (cI, n_p1, .inl (u9)))] t9.heap ∧ va_K (dC, dI) vwCl [(cI, .int), (cJ, .long), (cZ, .boolean)] t9 ∧ va_D (va_A [(a_p1, .inl (cI, n_p1, .inl f_p1))] sz) [(a_p1, .inl (cI, n_p1, .inl (u9)))]) (va_A [(a_p1, .inl (cI, n_p1, .inl f_p1))] sz)) 0 0 (va_A [(a_p1, .inl (cI, n_p1, .inl f_p1))] sz) := by
  refine Met.ofW (cc := cX3_drawMask) (maxL := 3) (ret := none) (by decide) rfl ?_
  intro p e s m args below meth c s₁ B hml hv
  obtain ⟨eargs, hsz, hP, hK, hD0, hT_st_BarCodes_Square_MASK_SIGNS, hZ_st_BarCodes_Square_MASK_SIGNS⟩ := hv
  have hx := B.exec
  have hb := B.bytes
  have hr := B.returns
  have hts := atoms_spec (ws := wsX3_drawMask) B.pre
  have hown : s.vm.findClass RX3 = some m.cls := findClass_of_methodNamed B.named
  have hlocks := B.notSynchronized
  refine im_Q (fun Q eQ => ?_)
  subst hsz
  have hD := hD0.self (sz := s.heap.size)
  generalize hAe : va_A [(a_p1, .inl (cI, n_p1, .inl f_p1))] s.heap.size = A at hD eQ hT_st_BarCodes_Square_MASK_SIGNS hZ_st_BarCodes_Square_MASK_SIGNS
  have hA : ∀ q : Nat, s.heap.size ≤ q → A q := fun q h => by rw [← hAe]; exact Or.inr h
  have hS : va_S A s.heap s.heap [] := va_S.rf
  have hl := lv_entry [.int x0, .ref a_p1] (n := 3) (Nat.le_of_ble_eq_true rfl)
  rw [show entryFrame m args 3 = entryFrame m ([.int x0, .ref a_p1] : List Value).toArray 3 by rw [eargs], lg_entry_eq]
  generalize (lg_sl ([.int x0, .ref a_p1]) ++ List.replicate (3 - (lg_sl ([.int x0, .ref a_p1])).length) Slot.unset).toArray = ls at hl ⊢
  have hl : lv_has ls 3 [(0, .int x0), (1, .ref a_p1)] := hl
  rw [im_X3_drawMask] at h
  refine lv_iconst (v := (0 : Int32)) hx hb dX3_drawMask_0 (by decide) ?_
  refine lv_istore_n (lv' := [(2, .int (0 : Int32)), (0, .int x0), (1, .ref a_p1)]) hx hb dX3_drawMask_1 rfl hl (by decide) rfl (fun ls hl => ?_)
  have Lp3 : ∀ (n : Nat) (v1 : Int32) (f2 : Nat → Int32), im_X3_drawMask_L2 x0 n_st_BarCodes_Square_MASK_SIGNS f_st_BarCodes_Square_MASK_SIGNS n_p1 n v1 f2 = some r → ∀ (H : Heap) (locs : List Loc) (ls : Array Slot), va_P (dC, dI) vwCl [(a_p1, .inl (cI, n_p1, .inl f2))] H → va_D A [(a_p1, .inl (cI, n_p1, .inl f2))] → va_S A s.heap H locs → lv_has ls 3 [(0, .int x0), (1, .ref a_p1), (2, .int v1)] → W p l e (headSpec wsX3_drawMask rm_X3_drawMask).room s m args below meth c H locs 0 0 Q (F0 m 2 ls []) := by
    intro n
    induction n with
    | zero => intro v1 f2 h; rw [im_X3_drawMask_L2] at h; cases h
    | succ n ih =>
      intro v1 f2 h H locs ls hP hD hS hl
      rw [im_X3_drawMask_L2] at h
      refine lv_iload_n hx hb dX3_drawMask_2 rfl (lv_at hl 2 rfl) ?_
      refine lv_iconst (v := (4 : Int32)) hx hb dX3_drawMask_3 (by decide) ?_
      refine lv_icmp_ge (tgt := 27) hx hb dX3_drawMask_4 (by decide) (fun c4 => ?_) (fun c4 => ?_)
      · replace h := im_t c4 h
        rw [eQ]
        exact W.vret hx hb hr (fun t ht hW => ⟨⟨f2, rfl, Option.some.inj h, by rw [ht]; exact hP, va_K.moved hW.alike hK, hD⟩, hS.F ht⟩) hS.2.2 dX3_drawMask_27
      · replace h := im_f c4 h
        refine lv_aload_n hx hb dX3_drawMask_7 rfl (lv_at hl 1 rfl) ?_
        refine lv_bipush (v := (96 : Int32)) hx hb dX3_drawMask_8 (by decide) ?_
        refine lv_iload_n hx hb dX3_drawMask_10 rfl (lv_at hl 2 rfl) ?_
        refine lv_iadd hx hb dX3_drawMask_11 ?_
        refine lv_topi (fun v4 ev4 => ?_)
        replace h := im_lt_u h v4 ev4
        obtain ⟨v5, y12, h⟩ := im_b1_u h
        refine vp_callSi (W.runS (As := [.int v4]) (rest := [.ref a_p1]) ⟨hx, hb, hml, hown, hts⟩ (c_X3_placeOf l v4 y12) (va_cwS 1 hts gX3_drawMask_X3_placeOf rfl rfl rfl (by decide +kernel) ⟨Nat.le_of_ble_eq_true rfl, Nat.le_of_ble_eq_true rfl⟩) ⟨fun _ _ _ _ q => q, fun U hU hW => ⟨rfl, trivial⟩⟩ rfl rfl hl.1 rfl (lv_room (Nat.le_of_ble_eq_true rfl)) dX3_drawMask_12 ⟨Nat.zero_le _, Nat.zero_le _⟩) (fun w12 ew12 => ?_)
        have ew12 := ew12.symm
        subst ew12
        refine lv_iload_n hx hb dX3_drawMask_15 rfl (lv_at hl 0 rfl) ?_
        refine lv_iload_n hx hb dX3_drawMask_16 rfl (lv_at hl 2 rfl) ?_
        obtain ⟨v6, y17, h⟩ := im_b1_u h
        refine vp_callSi (W.runS (As := [.int x0, .int v1]) (rest := [.int v5, .ref a_p1]) ⟨hx, hb, hml, hown, hts⟩ (c_X3_signBit l dC dI cI cJ cZ a_st_BarCodes_Square_MASK_SIGNS n_st_BarCodes_Square_MASK_SIGNS f_st_BarCodes_Square_MASK_SIGNS x0 v1 y17) (va_cwS 2 hts gX3_drawMask_X3_signBit rfl rfl rfl (by decide +kernel) ⟨Nat.le_of_ble_eq_true rfl, Nat.le_of_ble_eq_true rfl⟩) ⟨fun a U g mk q => by obtain ⟨q0, t0, t1⟩ := q; exact ⟨q0, va_T.moved (u := U) (U := U.calling g mk a) (Vm.Alike.refl U.vm) t0, va_Z.moved (u := U) (U := U.calling g mk a) (Vm.Alike.refl U.vm) t1⟩, fun U hU hW => ⟨rfl, by rw [hU]; exact va_T.moved hW.alike (va_T.narrow (va_T.kept hT_st_BarCodes_Square_MASK_SIGNS hS.2.1) (fun _ h9 => h9.elim)), by rw [hU]; exact va_Z.moved hW.alike (va_Z.narrow (va_Z.kept hZ_st_BarCodes_Square_MASK_SIGNS hS.2.1) (fun _ h9 => h9.elim))⟩⟩ rfl rfl hl.1 rfl (lv_room (Nat.le_of_ble_eq_true rfl)) dX3_drawMask_17 ⟨Nat.zero_le _, Nat.zero_le _⟩) (fun w17 ew17 => ?_)
        have ew17 := ew17.symm
        subst ew17
        obtain ⟨q20, h⟩ := im_st_u h
        refine va_iast hx hb hK hP hD hS 0 0 rfl rfl q20 dX3_drawMask_20 (fun H locs hP hD hS => ?_)
        obtain ⟨f7, ef7⟩ : ∃ g : Nat → Int32, g = upd f2 v5.toNatClampNeg v6 := ⟨_, rfl⟩
        replace h := h f7 ef7
        rw [← ef7] at hP hD
        have hP : va_P (dC, dI) vwCl [(a_p1, .inl (cI, n_p1, .inl f7))] H := hP
        have hD : va_D A [(a_p1, .inl (cI, n_p1, .inl f7))] := hD
        obtain ⟨v8, ev8⟩ : ∃ y : Int32, y = (v1 + (1 : Int32)) := ⟨_, rfl⟩
        replace h := im_lt_u h v8 ev8
        refine lv_iinc (v := v8) (lv' := [(2, .int v8), (0, .int x0), (1, .ref a_p1)]) hx hb dX3_drawMask_21 hl (k := 2) rfl (by rw [ev8]; rfl) (by decide) rfl (fun ls hl => ?_)
        refine lv_goto (tgt := 2) hx hb dX3_drawMask_24 (by decide) ?_
        exact ih v8 f7 h _ _ _ hP hD hS (lv_sub hl [1, 2, 0] rfl)
  exact Lp3 5000 (0 : Int32) f_p1 h _ _ _ hP hD hS (lv_sub hl [1, 2, 0] rfl)
def im_X3_nearestMask_L17 (K6 : Int32 → Option (Int32)) (n_p0 : Nat) (f_p0 : Nat → Int32) (v3 : Int32) (n_st_BarCodes_Square_MASK_SIGNS : Nat) (f_st_BarCodes_Square_MASK_SIGNS : Nat → Int32) : Nat → Int32 → Int32 → Option (Int32)
  | 0, _, _ => none
  | n + 1, v11, v12 => if (4 : Int32) ≤ v12 then (K6 v11) else im_j2 (fun (v14 : Int32) (v15 : Int32) => im_lt (v15 + v14) (fun v17 => im_lt (v12 + (1 : Int32)) (fun v18 => (im_X3_nearestMask_L17 K6 n_p0 f_p0 v3 n_st_BarCodes_Square_MASK_SIGNS f_st_BarCodes_Square_MASK_SIGNS n v17 v18)))) (fun K16 => im_j1 (fun (v19 : Int32) => (K16 (0 : Int32) v19)) (fun K20 => im_lt ((96 : Int32) + v12) (fun v21 => im_b1 (im_X3_placeOf v21) (fun v22 => im_ld n_p0 f_p0 v22 (fun v23 => if v23 = (-1 : Int32) then (K20 v11) else im_b1 (im_X3_signBit v3 v12 n_st_BarCodes_Square_MASK_SIGNS f_st_BarCodes_Square_MASK_SIGNS) (fun v24 => if v23 = v24 then (K20 v11) else (K16 (1 : Int32) v11)))))))
def im_X3_nearestMask_L6 (n_p0 : Nat) (f_p0 : Nat → Int32) (n_st_BarCodes_Square_MASK_SIGNS : Nat) (f_st_BarCodes_Square_MASK_SIGNS : Nat → Int32) : Nat → Int32 → Int32 → Int32 → Option (Int32)
  | 0, _, _, _ => none
  | n + 1, v1, v2, v3 => if (4 : Int32) ≤ v3 then (some v1) else im_j1 (fun (v5 : Int32) => im_j2 (fun (v7 : Int32) (v8 : Int32) => im_lt (v3 + (1 : Int32)) (fun v10 => (im_X3_nearestMask_L6 n_p0 f_p0 n_st_BarCodes_Square_MASK_SIGNS f_st_BarCodes_Square_MASK_SIGNS n v7 v8 v10))) (fun K9 => if v2 ≤ v5 then (K9 v1 v2) else (K9 v3 v5))) (fun K6 => (im_X3_nearestMask_L17 K6 n_p0 f_p0 v3 n_st_BarCodes_Square_MASK_SIGNS f_st_BarCodes_Square_MASK_SIGNS 5000 (0 : Int32) (0 : Int32)))
def im_X3_nearestMask (n_p0 : Nat) (n_st_BarCodes_Square_MASK_SIGNS : Nat) (f_p0 : Nat → Int32) (f_st_BarCodes_Square_MASK_SIGNS : Nat → Int32) : Option (Int32) := (im_X3_nearestMask_L6 n_p0 f_p0 n_st_BarCodes_Square_MASK_SIGNS f_st_BarCodes_Square_MASK_SIGNS 5000 (0 : Int32) (5 : Int32) (0 : Int32))
abbrev rm_X3_nearestMask : Room := { frames := 1, cells := 0, slots := 0, locals := 21 }
set_option maxHeartbeats 4000000 in
set_option maxRecDepth 100000 in
theorem c_X3_nearestMask (l : Launch) (dC : Nat → ClassId) (dI : Nat → Nat → Nat) (cI cJ cZ : ClassId) (a_p0 a_st_BarCodes_Square_MASK_SIGNS : Nat) (n_p0 n_st_BarCodes_Square_MASK_SIGNS : Nat) (f_p0 : Nat → Int32) (f_st_BarCodes_Square_MASK_SIGNS : Nat → Int32) {r : Int32} (h : im_X3_nearestMask n_p0 n_st_BarCodes_Square_MASK_SIGNS f_p0 f_st_BarCodes_Square_MASK_SIGNS = some r) : Met l yX3_nearestMask wsX3_nearestMask rm_X3_nearestMask (va_Pc [.ref a_p0] (fun U => va_P (dC, dI) vwCl [(a_p0, .inl (cI, n_p0, .inl f_p0))] U.heap ∧ va_K (dC, dI) vwCl [(cI, .int), (cJ, .long), (cZ, .boolean)] U ∧ va_T .int a_st_BarCodes_Square_MASK_SIGNS n_st_BarCodes_Square_MASK_SIGNS (fun j => .int (f_st_BarCodes_Square_MASK_SIGNS j)) (fun _ => False) U U.heap ∧ va_Z "BarCodes$Square" "MASK_SIGNS" "[I" (.ref a_st_BarCodes_Square_MASK_SIGNS) (fun _ => False) U U.heap)) (vp_Si (fun r9 => r9 = r)) 0 0 (fun _ => False) := by
  refine Met.ofW (cc := cX3_nearestMask) (maxL := 7) (ret := (some .int)) (by decide) rfl ?_
  intro p e s m args below meth c s₁ B hml hv
  obtain ⟨eargs, hP, hK, hT_st_BarCodes_Square_MASK_SIGNS, hZ_st_BarCodes_Square_MASK_SIGNS⟩ := hv
  have hx := B.exec
  have hb := B.bytes
  have hr := B.returns
  have hts := atoms_spec (ws := wsX3_nearestMask) B.pre
  have hown : s.vm.findClass RX3 = some m.cls := findClass_of_methodNamed B.named
  have hlocks := B.notSynchronized
  refine im_Q (fun Q eQ => ?_)
  have hl := lv_entry [.ref a_p0] (n := 7) (Nat.le_of_ble_eq_true rfl)
  rw [show entryFrame m args 7 = entryFrame m ([.ref a_p0] : List Value).toArray 7 by rw [eargs], lg_entry_eq]
  generalize (lg_sl ([.ref a_p0]) ++ List.replicate (7 - (lg_sl ([.ref a_p0])).length) Slot.unset).toArray = ls at hl ⊢
  have hl : lv_has ls 7 [(0, .ref a_p0)] := hl
  rw [im_X3_nearestMask] at h
  refine lv_iconst (v := (0 : Int32)) hx hb dX3_nearestMask_0 (by decide) ?_
  refine lv_istore_n (lv' := [(1, .int (0 : Int32)), (0, .ref a_p0)]) hx hb dX3_nearestMask_1 rfl hl (by decide) rfl (fun ls hl => ?_)
  refine lv_iconst (v := (5 : Int32)) hx hb dX3_nearestMask_2 (by decide) ?_
  refine lv_istore_n (lv' := [(2, .int (5 : Int32)), (1, .int (0 : Int32)), (0, .ref a_p0)]) hx hb dX3_nearestMask_3 rfl hl (by decide) rfl (fun ls hl => ?_)
  refine lv_iconst (v := (0 : Int32)) hx hb dX3_nearestMask_4 (by decide) ?_
  refine lv_istore_n (lv' := [(3, .int (0 : Int32)), (2, .int (5 : Int32)), (1, .int (0 : Int32)), (0, .ref a_p0)]) hx hb dX3_nearestMask_5 rfl hl (by decide) rfl (fun ls hl => ?_)
  have Lp4 : ∀ (n : Nat) (v1 : Int32) (v2 : Int32) (v3 : Int32), im_X3_nearestMask_L6 n_p0 f_p0 n_st_BarCodes_Square_MASK_SIGNS f_st_BarCodes_Square_MASK_SIGNS n v1 v2 v3 = some r → ∀ (ls : Array Slot), lv_has ls 7 [(0, .ref a_p0), (1, .int v1), (2, .int v2), (3, .int v3)] → W p l e (headSpec wsX3_nearestMask rm_X3_nearestMask).room s m args below meth c s.heap [] 0 0 Q (F0 m 6 ls []) := by
    intro n
    induction n with
    | zero => intro v1 v2 v3 h; rw [im_X3_nearestMask_L6] at h; cases h
    | succ n ih =>
      intro v1 v2 v3 h ls hl
      rw [im_X3_nearestMask_L6] at h
      refine lv_iload_n hx hb dX3_nearestMask_6 rfl (lv_at hl 3 rfl) ?_
      refine lv_iconst (v := (4 : Int32)) hx hb dX3_nearestMask_7 (by decide) ?_
      refine lv_icmp_ge (tgt := 85) hx hb dX3_nearestMask_8 (by decide) (fun c8 => ?_) (fun c8 => ?_)
      · replace h := im_t c8 h
        refine lv_iload_n hx hb dX3_nearestMask_85 rfl (lv_at hl 1 rfl) ?_
        rw [eQ]
        exact W.iret (v := v1) hx hb hr (fun t ht hW => ⟨_, rfl, Option.some.inj h, ht⟩) (fun _ h9 => by cases h9) dX3_nearestMask_86
      · replace h := im_f c8 h
        refine lv_iconst (v := (0 : Int32)) hx hb dX3_nearestMask_11 (by decide) ?_
        refine lv_istore (lv' := [(4, .int (0 : Int32)), (0, .ref a_p0), (1, .int v1), (2, .int v2), (3, .int v3)]) hx hb dX3_nearestMask_12 hl (by decide) rfl (fun ls hl => ?_)
        refine lv_iconst (v := (0 : Int32)) hx hb dX3_nearestMask_14 (by decide) ?_
        refine lv_istore (lv' := [(5, .int (0 : Int32)), (4, .int (0 : Int32)), (0, .ref a_p0), (1, .int v1), (2, .int v2), (3, .int v3)]) hx hb dX3_nearestMask_15 hl (by decide) rfl (fun ls hl => ?_)
        refine im_j1_u (P := fun v5 => ∀ (ls : Array Slot), lv_has ls 7 [(0, .ref a_p0), (1, .int v1), (2, .int v2), (3, .int v3), (4, .int v5)] → W p l e (headSpec wsX3_nearestMask rm_X3_nearestMask).room s m args below meth c s.heap [] 0 0 Q (F0 m 68 ls [])) h (fun v5 h ls hl => ?_) (fun K6 J6 h => ?_)
        · refine im_j2_u (P := fun v7 v8 => ∀ (ls : Array Slot), lv_has ls 7 [(0, .ref a_p0), (1, .int v7), (2, .int v8), (3, .int v3)] → W p l e (headSpec wsX3_nearestMask rm_X3_nearestMask).room s m args below meth c s.heap [] 0 0 Q (F0 m 79 ls [])) h (fun v7 v8 h ls hl => ?_) (fun K9 J9 h => ?_)
          · obtain ⟨v10, ev10⟩ : ∃ y : Int32, y = (v3 + (1 : Int32)) := ⟨_, rfl⟩
            replace h := im_lt_u h v10 ev10
            refine lv_iinc (v := v10) (lv' := [(3, .int v10), (0, .ref a_p0), (1, .int v7), (2, .int v8)]) hx hb dX3_nearestMask_79 hl (k := 3) rfl (by rw [ev10]; rfl) (by decide) rfl (fun ls hl => ?_)
            refine lv_goto (tgt := 6) hx hb dX3_nearestMask_82 (by decide) ?_
            exact ih v7 v8 v10 h _ (lv_sub hl [1, 2, 3, 0] rfl)
          · refine lv_iload hx hb dX3_nearestMask_68 (lv_at hl 4 rfl) ?_
            refine lv_iload_n hx hb dX3_nearestMask_70 rfl (lv_at hl 2 rfl) ?_
            refine lv_icmp_ge (tgt := 79) hx hb dX3_nearestMask_71 (by decide) (fun c71 => ?_) (fun c71 => ?_)
            · replace h := im_t c71 h
              exact J9 v1 v2 h _ (lv_sub hl [0, 1, 2, 3] rfl)
            · replace h := im_f c71 h
              refine lv_iload hx hb dX3_nearestMask_74 (lv_at hl 4 rfl) ?_
              refine lv_istore_n (lv' := [(2, .int v5), (0, .ref a_p0), (1, .int v1), (3, .int v3), (4, .int v5)]) hx hb dX3_nearestMask_76 rfl hl (by decide) rfl (fun ls hl => ?_)
              refine lv_iload_n hx hb dX3_nearestMask_77 rfl (lv_at hl 3 rfl) ?_
              refine lv_istore_n (lv' := [(1, .int v3), (2, .int v5), (0, .ref a_p0), (3, .int v3), (4, .int v5)]) hx hb dX3_nearestMask_78 rfl hl (by decide) rfl (fun ls hl => ?_)
              exact J9 v3 v5 h _ (lv_sub hl [2, 0, 1, 3] rfl)
        · have Lp13 : ∀ (n : Nat) (v11 : Int32) (v12 : Int32), im_X3_nearestMask_L17 K6 n_p0 f_p0 v3 n_st_BarCodes_Square_MASK_SIGNS f_st_BarCodes_Square_MASK_SIGNS n v11 v12 = some r → ∀ (ls : Array Slot), lv_has ls 7 [(0, .ref a_p0), (1, .int v1), (2, .int v2), (3, .int v3), (4, .int v11), (5, .int v12)] → W p l e (headSpec wsX3_nearestMask rm_X3_nearestMask).room s m args below meth c s.heap [] 0 0 Q (F0 m 17 ls []) := by
            intro n
            induction n with
            | zero => intro v11 v12 h; rw [im_X3_nearestMask_L17] at h; cases h
            | succ n ih =>
              intro v11 v12 h ls hl
              rw [im_X3_nearestMask_L17] at h
              refine lv_iload hx hb dX3_nearestMask_17 (lv_at hl 5 rfl) ?_
              refine lv_iconst (v := (4 : Int32)) hx hb dX3_nearestMask_19 (by decide) ?_
              refine lv_icmp_ge (tgt := 68) hx hb dX3_nearestMask_20 (by decide) (fun c20 => ?_) (fun c20 => ?_)
              · replace h := im_t c20 h
                exact J6 v11 h _ (lv_sub hl [0, 1, 2, 3, 4] rfl)
              · replace h := im_f c20 h
                refine im_j2_u (P := fun v14 v15 => ∀ (ls : Array Slot), lv_has ls 7 [(0, .ref a_p0), (1, .int v1), (2, .int v2), (3, .int v3), (5, .int v12)] → W p l e (headSpec wsX3_nearestMask rm_X3_nearestMask).room s m args below meth c s.heap [] 0 0 Q (F0 m 59 ls [.int v14, .int v15])) h (fun v14 v15 h ls hl => ?_) (fun K16 J16 h => ?_)
                · refine lv_iadd hx hb dX3_nearestMask_59 ?_
                  refine lv_topi (fun v17 ev17 => ?_)
                  replace h := im_lt_u h v17 ev17
                  refine lv_istore (lv' := [(4, .int v17), (0, .ref a_p0), (1, .int v1), (2, .int v2), (3, .int v3), (5, .int v12)]) hx hb dX3_nearestMask_60 hl (by decide) rfl (fun ls hl => ?_)
                  obtain ⟨v18, ev18⟩ : ∃ y : Int32, y = (v12 + (1 : Int32)) := ⟨_, rfl⟩
                  replace h := im_lt_u h v18 ev18
                  refine lv_iinc (v := v18) (lv' := [(5, .int v18), (4, .int v17), (0, .ref a_p0), (1, .int v1), (2, .int v2), (3, .int v3)]) hx hb dX3_nearestMask_62 hl (k := 5) rfl (by rw [ev18]; rfl) (by decide) rfl (fun ls hl => ?_)
                  refine lv_goto (tgt := 17) hx hb dX3_nearestMask_65 (by decide) ?_
                  exact ih v17 v18 h _ (lv_sub hl [2, 3, 4, 5, 1, 0] rfl)
                · refine im_j1_u (P := fun v19 => ∀ (ls : Array Slot), lv_has ls 7 [(0, .ref a_p0), (1, .int v1), (2, .int v2), (3, .int v3), (5, .int v12)] → W p l e (headSpec wsX3_nearestMask rm_X3_nearestMask).room s m args below meth c s.heap [] 0 0 Q (F0 m 58 ls [.int v19])) h (fun v19 h ls hl => ?_) (fun K20 J20 h => ?_)
                  · refine lv_iconst (v := (0 : Int32)) hx hb dX3_nearestMask_58 (by decide) ?_
                    exact J16 (0 : Int32) v19 h _ (lv_sub hl [0, 1, 2, 3, 4] rfl)
                  · refine lv_aload_n hx hb dX3_nearestMask_23 rfl (lv_at hl 0 rfl) ?_
                    refine lv_bipush (v := (96 : Int32)) hx hb dX3_nearestMask_24 (by decide) ?_
                    refine lv_iload hx hb dX3_nearestMask_26 (lv_at hl 5 rfl) ?_
                    refine lv_iadd hx hb dX3_nearestMask_28 ?_
                    refine lv_topi (fun v21 ev21 => ?_)
                    replace h := im_lt_u h v21 ev21
                    obtain ⟨v22, y29, h⟩ := im_b1_u h
                    refine vp_callSi (W.runS (As := [.int v21]) (rest := [.ref a_p0]) ⟨hx, hb, hml, hown, hts⟩ (c_X3_placeOf l v21 y29) (va_cwS 1 hts gX3_nearestMask_X3_placeOf rfl rfl rfl (by decide +kernel) ⟨Nat.le_of_ble_eq_true rfl, Nat.le_of_ble_eq_true rfl⟩) ⟨fun _ _ _ _ q => q, fun U hU hW => ⟨rfl, trivial⟩⟩ rfl rfl hl.1 rfl (lv_room (Nat.le_of_ble_eq_true rfl)) dX3_nearestMask_29 ⟨Nat.zero_le _, Nat.zero_le _⟩) (fun w29 ew29 => ?_)
                    have ew29 := ew29.symm
                    subst ew29
                    obtain ⟨q32, h⟩ := im_ld_u h
                    refine va_iald hx hb hK hP 0 0 rfl rfl q32 dX3_nearestMask_32 ?_
                    refine lv_topi (fun v23 ev23 => ?_)
                    replace h := h v23 ev23
                    refine lv_istore (lv' := [(6, .int v23), (0, .ref a_p0), (1, .int v1), (2, .int v2), (3, .int v3), (4, .int v11), (5, .int v12)]) hx hb dX3_nearestMask_33 hl (by decide) rfl (fun ls hl => ?_)
                    refine lv_iload hx hb dX3_nearestMask_35 (lv_at hl 5 rfl) ?_
                    refine lv_iload hx hb dX3_nearestMask_37 (lv_at hl 0 rfl) ?_
                    refine lv_iconst (v := (-1 : Int32)) hx hb dX3_nearestMask_39 (by decide) ?_
                    refine lv_icmp_eq (tgt := 58) hx hb dX3_nearestMask_40 (by decide) (fun c40 => ?_) (fun c40 => ?_)
                    · replace h := im_t c40 h
                      exact J20 v11 h _ (lv_sub hl [1, 2, 3, 4, 6] rfl)
                    · replace h := im_f c40 h
                      refine lv_iload hx hb dX3_nearestMask_43 (lv_at hl 0 rfl) ?_
                      refine lv_iload_n hx hb dX3_nearestMask_45 rfl (lv_at hl 4 rfl) ?_
                      refine lv_iload hx hb dX3_nearestMask_46 (lv_at hl 6 rfl) ?_
                      obtain ⟨v24, y48, h⟩ := im_b1_u h
                      refine vp_callSi (W.runS (As := [.int v3, .int v12]) (rest := [.int v23, .int v11]) ⟨hx, hb, hml, hown, hts⟩ (c_X3_signBit l dC dI cI cJ cZ a_st_BarCodes_Square_MASK_SIGNS n_st_BarCodes_Square_MASK_SIGNS f_st_BarCodes_Square_MASK_SIGNS v3 v12 y48) (va_cwS 2 hts gX3_nearestMask_X3_signBit rfl rfl rfl (by decide +kernel) ⟨Nat.le_of_ble_eq_true rfl, Nat.le_of_ble_eq_true rfl⟩) ⟨fun a U g mk q => by obtain ⟨q0, t0, t1⟩ := q; exact ⟨q0, va_T.moved (u := U) (U := U.calling g mk a) (Vm.Alike.refl U.vm) t0, va_Z.moved (u := U) (U := U.calling g mk a) (Vm.Alike.refl U.vm) t1⟩, fun U hU hW => ⟨rfl, by rw [hU]; exact va_T.moved hW.alike hT_st_BarCodes_Square_MASK_SIGNS, by rw [hU]; exact va_Z.moved hW.alike hZ_st_BarCodes_Square_MASK_SIGNS⟩⟩ rfl rfl hl.1 rfl (lv_room (Nat.le_of_ble_eq_true rfl)) dX3_nearestMask_48 ⟨Nat.zero_le _, Nat.zero_le _⟩) (fun w48 ew48 => ?_)
                      have ew48 := ew48.symm
                      subst ew48
                      refine lv_icmp_eq (tgt := 58) hx hb dX3_nearestMask_51 (by decide) (fun c51 => ?_) (fun c51 => ?_)
                      · replace h := im_t c51 h
                        exact J20 v11 h _ (lv_sub hl [1, 2, 3, 4, 6] rfl)
                      · replace h := im_f c51 h
                        refine lv_iconst (v := (1 : Int32)) hx hb dX3_nearestMask_54 (by decide) ?_
                        refine lv_goto (tgt := 59) hx hb dX3_nearestMask_55 (by decide) ?_
                        exact J16 (1 : Int32) v11 h _ (lv_sub hl [1, 2, 3, 4, 6] rfl)
          exact Lp13 5000 (0 : Int32) (0 : Int32) h _ (lv_sub hl [2, 3, 4, 5, 1, 0] rfl)
  exact Lp4 5000 (0 : Int32) (5 : Int32) (0 : Int32) h _ (lv_sub hl [3, 2, 1, 0] rfl)
