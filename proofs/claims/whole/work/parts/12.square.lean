def im_X3_frameAt (x0 : Int32) : Option (Int32) := im_lt (x0 / (12 : Int32)) (fun v1 => im_lt (x0 - x0 / (12 : Int32) * (12 : Int32)) (fun v2 => if v2 = 0 then (some (1 : Int32)) else if v1 = (11 : Int32) then (some (1 : Int32)) else if v1 = 0 then im_lt (v2 - v2 / (2 : Int32) * (2 : Int32)) (fun v5 => im_lt ((1 : Int32) - v5) (fun v6 => (some v6))) else if v2 = (11 : Int32) then im_lt (v1 - v1 / (2 : Int32) * (2 : Int32)) (fun v3 => im_lt ((1 : Int32) - v3) (fun v4 => (some v4))) else (some (-1 : Int32))))
abbrev rm_X3_frameAt : Room := { frames := 0, cells := 0, slots := 0, locals := 0 }
set_option maxHeartbeats 4000000 in
set_option maxRecDepth 100000 in
theorem c_X3_frameAt (l : Launch) (x0 : Int32) {r : Int32} (h : im_X3_frameAt x0 = some r) : Met l yX3_frameAt wsX3_frameAt rm_X3_frameAt (va_Pc [.int x0] (fun U => True)) (vp_Si (fun r9 => r9 = r)) 0 0 (fun _ => False) := by
  refine Met.ofW (cc := cX3_frameAt) (maxL := 3) (ret := (some .int)) (by decide) rfl ?_
  intro p e s m args below meth c s₁ B hml hv
  obtain ⟨eargs, -⟩ := hv
  have hx := B.exec
  have hb := B.bytes
  have hr := B.returns
  have hts := atoms_spec (ws := wsX3_frameAt) B.pre
  have hown : s.vm.findClass RX3 = some m.cls := findClass_of_methodNamed B.named
  have hlocks := B.notSynchronized
  refine im_Q (fun Q eQ => ?_)
  have hl := lv_entry [.int x0] (n := 3) (Nat.le_of_ble_eq_true rfl)
  rw [show entryFrame m args 3 = entryFrame m ([.int x0] : List Value).toArray 3 by rw [eargs], lg_entry_eq]
  generalize (lg_sl ([.int x0]) ++ List.replicate (3 - (lg_sl ([.int x0])).length) Slot.unset).toArray = ls at hl ⊢
  have hl : lv_has ls 3 [(0, .int x0)] := hl
  rw [im_X3_frameAt] at h
  refine lv_iload_n hx hb dX3_frameAt_0 rfl (lv_at hl 0 rfl) ?_
  refine lv_bipush (v := (12 : Int32)) hx hb dX3_frameAt_1 (by decide) ?_
  refine lv_idiv hx hb dX3_frameAt_3 (by decide) ?_
  refine lv_topi (fun v1 ev1 => ?_)
  replace h := im_lt_u h v1 ev1
  refine lv_istore_n (lv' := [(1, .int v1), (0, .int x0)]) hx hb dX3_frameAt_4 rfl hl (by decide) rfl (fun ls hl => ?_)
  refine lv_iload_n hx hb dX3_frameAt_5 rfl (lv_at hl 1 rfl) ?_
  refine lv_bipush (v := (12 : Int32)) hx hb dX3_frameAt_6 (by decide) ?_
  refine lv_irem hx hb dX3_frameAt_8 (by decide) ?_
  refine lv_topi (fun v2 ev2 => ?_)
  replace h := im_lt_u h v2 ev2
  refine lv_istore_n (lv' := [(2, .int v2), (1, .int v1), (0, .int x0)]) hx hb dX3_frameAt_9 rfl hl (by decide) rfl (fun ls hl => ?_)
  refine lv_iload_n hx hb dX3_frameAt_10 rfl (lv_at hl 0 rfl) ?_
  refine lv_if_eq (tgt := 20) hx hb dX3_frameAt_11 (by decide) (fun c11 => ?_) (fun c11 => ?_)
  · replace h := im_t c11 h
    refine lv_iconst (v := (1 : Int32)) hx hb dX3_frameAt_20 (by decide) ?_
    rw [eQ]
    exact W.iret (v := (1 : Int32)) hx hb hr (fun t ht hW => ⟨_, rfl, Option.some.inj h, ht⟩) (fun _ h9 => by cases h9) dX3_frameAt_21
  · replace h := im_f c11 h
    refine lv_iload_n hx hb dX3_frameAt_14 rfl (lv_at hl 1 rfl) ?_
    refine lv_bipush (v := (11 : Int32)) hx hb dX3_frameAt_15 (by decide) ?_
    refine lv_icmp_ne (tgt := 22) hx hb dX3_frameAt_17 (by decide) (fun c17 => ?_) (fun c17 => ?_)
    · replace h := im_f c17 h
      refine lv_iload_n hx hb dX3_frameAt_22 rfl (lv_at hl 1 rfl) ?_
      refine lv_if_ne (tgt := 32) hx hb dX3_frameAt_23 (by decide) (fun c23 => ?_) (fun c23 => ?_)
      · replace h := im_f c23 h
        refine lv_iload_n hx hb dX3_frameAt_32 rfl (lv_at hl 0 rfl) ?_
        refine lv_bipush (v := (11 : Int32)) hx hb dX3_frameAt_33 (by decide) ?_
        refine lv_icmp_ne (tgt := 46) hx hb dX3_frameAt_35 (by decide) (fun c35 => ?_) (fun c35 => ?_)
        · replace h := im_f c35 h
          refine lv_iconst (v := (-1 : Int32)) hx hb dX3_frameAt_46 (by decide) ?_
          rw [eQ]
          exact W.iret (v := (-1 : Int32)) hx hb hr (fun t ht hW => ⟨_, rfl, Option.some.inj h, ht⟩) (fun _ h9 => by cases h9) dX3_frameAt_47
        · replace h := im_t c35 h
          refine lv_iconst (v := (1 : Int32)) hx hb dX3_frameAt_38 (by decide) ?_
          refine lv_iload_n hx hb dX3_frameAt_39 rfl (lv_at hl 1 rfl) ?_
          refine lv_iconst (v := (2 : Int32)) hx hb dX3_frameAt_40 (by decide) ?_
          refine lv_irem hx hb dX3_frameAt_41 (by decide) ?_
          refine lv_topi (fun v3 ev3 => ?_)
          replace h := im_lt_u h v3 ev3
          refine lv_isub hx hb dX3_frameAt_42 ?_
          refine lv_topi (fun v4 ev4 => ?_)
          replace h := im_lt_u h v4 ev4
          refine lv_goto (tgt := 47) hx hb dX3_frameAt_43 (by decide) ?_
          rw [eQ]
          exact W.iret (v := v4) hx hb hr (fun t ht hW => ⟨_, rfl, Option.some.inj h, ht⟩) (fun _ h9 => by cases h9) dX3_frameAt_47
      · replace h := im_t c23 h
        refine lv_iconst (v := (1 : Int32)) hx hb dX3_frameAt_26 (by decide) ?_
        refine lv_iload_n hx hb dX3_frameAt_27 rfl (lv_at hl 0 rfl) ?_
        refine lv_iconst (v := (2 : Int32)) hx hb dX3_frameAt_28 (by decide) ?_
        refine lv_irem hx hb dX3_frameAt_29 (by decide) ?_
        refine lv_topi (fun v5 ev5 => ?_)
        replace h := im_lt_u h v5 ev5
        refine lv_isub hx hb dX3_frameAt_30 ?_
        refine lv_topi (fun v6 ev6 => ?_)
        replace h := im_lt_u h v6 ev6
        rw [eQ]
        exact W.iret (v := v6) hx hb hr (fun t ht hW => ⟨_, rfl, Option.some.inj h, ht⟩) (fun _ h9 => by cases h9) dX3_frameAt_31
    · replace h := im_t c17 h
      refine lv_iconst (v := (1 : Int32)) hx hb dX3_frameAt_20 (by decide) ?_
      rw [eQ]
      exact W.iret (v := (1 : Int32)) hx hb hr (fun t ht hW => ⟨_, rfl, Option.some.inj h, ht⟩) (fun _ h9 => by cases h9) dX3_frameAt_21
def im_X3_placeOf (x0 : Int32) : Option (Int32) := im_lt (x0 / (10 : Int32)) (fun v1 => im_lt ((1 : Int32) + v1) (fun v2 => im_lt (v2 * (12 : Int32)) (fun v3 => im_lt (v3 + (1 : Int32)) (fun v4 => im_lt (x0 - x0 / (10 : Int32) * (10 : Int32)) (fun v5 => im_lt (v4 + v5) (fun v6 => (some v6)))))))
abbrev rm_X3_placeOf : Room := { frames := 0, cells := 0, slots := 0, locals := 0 }
set_option maxHeartbeats 4000000 in
set_option maxRecDepth 100000 in
theorem c_X3_placeOf (l : Launch) (x0 : Int32) {r : Int32} (h : im_X3_placeOf x0 = some r) : Met l yX3_placeOf wsX3_placeOf rm_X3_placeOf (va_Pc [.int x0] (fun U => True)) (vp_Si (fun r9 => r9 = r)) 0 0 (fun _ => False) := by
  refine Met.ofW (cc := cX3_placeOf) (maxL := 1) (ret := (some .int)) (by decide) rfl ?_
  intro p e s m args below meth c s₁ B hml hv
  obtain ⟨eargs, -⟩ := hv
  have hx := B.exec
  have hb := B.bytes
  have hr := B.returns
  have hts := atoms_spec (ws := wsX3_placeOf) B.pre
  have hown : s.vm.findClass RX3 = some m.cls := findClass_of_methodNamed B.named
  have hlocks := B.notSynchronized
  refine im_Q (fun Q eQ => ?_)
  have hl := lv_entry [.int x0] (n := 1) (Nat.le_of_ble_eq_true rfl)
  rw [show entryFrame m args 1 = entryFrame m ([.int x0] : List Value).toArray 1 by rw [eargs], lg_entry_eq]
  generalize (lg_sl ([.int x0]) ++ List.replicate (1 - (lg_sl ([.int x0])).length) Slot.unset).toArray = ls at hl ⊢
  have hl : lv_has ls 1 [(0, .int x0)] := hl
  rw [im_X3_placeOf] at h
  refine lv_iconst (v := (1 : Int32)) hx hb dX3_placeOf_0 (by decide) ?_
  refine lv_iload_n hx hb dX3_placeOf_1 rfl (lv_at hl 0 rfl) ?_
  refine lv_bipush (v := (10 : Int32)) hx hb dX3_placeOf_2 (by decide) ?_
  refine lv_idiv hx hb dX3_placeOf_4 (by decide) ?_
  refine lv_topi (fun v1 ev1 => ?_)
  replace h := im_lt_u h v1 ev1
  refine lv_iadd hx hb dX3_placeOf_5 ?_
  refine lv_topi (fun v2 ev2 => ?_)
  replace h := im_lt_u h v2 ev2
  refine lv_bipush (v := (12 : Int32)) hx hb dX3_placeOf_6 (by decide) ?_
  refine lv_imul hx hb dX3_placeOf_8 ?_
  refine lv_topi (fun v3 ev3 => ?_)
  replace h := im_lt_u h v3 ev3
  refine lv_iconst (v := (1 : Int32)) hx hb dX3_placeOf_9 (by decide) ?_
  refine lv_iadd hx hb dX3_placeOf_10 ?_
  refine lv_topi (fun v4 ev4 => ?_)
  replace h := im_lt_u h v4 ev4
  refine lv_iload_n hx hb dX3_placeOf_11 rfl (lv_at hl 0 rfl) ?_
  refine lv_bipush (v := (10 : Int32)) hx hb dX3_placeOf_12 (by decide) ?_
  refine lv_irem hx hb dX3_placeOf_14 (by decide) ?_
  refine lv_topi (fun v5 ev5 => ?_)
  replace h := im_lt_u h v5 ev5
  refine lv_iadd hx hb dX3_placeOf_15 ?_
  refine lv_topi (fun v6 ev6 => ?_)
  replace h := im_lt_u h v6 ev6
  rw [eQ]
  exact W.iret (v := v6) hx hb hr (fun t ht hW => ⟨_, rfl, Option.some.inj h, ht⟩) (fun _ h9 => by cases h9) dX3_placeOf_16
def im_X3_isTurned (x0 : Int32) (x1 : Int32) : Option (Int32) := im_lt (x0 / (12 : Int32)) (fun v1 => im_lt (x0 - x0 / (12 : Int32) * (12 : Int32)) (fun v2 => if x1 = (0 : Int32) then im_lt (v2 + v1) (fun v3 => im_lt (v3 - v3 / (2 : Int32) * (2 : Int32)) (fun v4 => if v4 = 0 then (some (1 : Int32)) else (some (0 : Int32)))) else if x1 = (1 : Int32) then im_lt (v1 - v1 / (2 : Int32) * (2 : Int32)) (fun v5 => if v5 = 0 then (some (1 : Int32)) else (some (0 : Int32))) else if x1 = (2 : Int32) then im_lt (v2 - v2 / (3 : Int32) * (3 : Int32)) (fun v6 => if v6 = 0 then (some (1 : Int32)) else (some (0 : Int32))) else im_lt (v2 * v1) (fun v7 => im_lt (v7 - v7 / (3 : Int32) * (3 : Int32)) (fun v8 => if v8 = 0 then (some (1 : Int32)) else (some (0 : Int32))))))
abbrev rm_X3_isTurned : Room := { frames := 0, cells := 0, slots := 0, locals := 0 }
set_option maxHeartbeats 4000000 in
set_option maxRecDepth 100000 in
theorem c_X3_isTurned (l : Launch) (x0 : Int32) (x1 : Int32) {r : Int32} (h : im_X3_isTurned x0 x1 = some r) : Met l yX3_isTurned wsX3_isTurned rm_X3_isTurned (va_Pc [.int x0, .int x1] (fun U => True)) (vp_Si (fun r9 => r9 = r)) 0 0 (fun _ => False) := by
  refine Met.ofW (cc := cX3_isTurned) (maxL := 4) (ret := (some .boolean)) (by decide) rfl ?_
  intro p e s m args below meth c s₁ B hml hv
  obtain ⟨eargs, -⟩ := hv
  have hx := B.exec
  have hb := B.bytes
  have hr := B.returns
  have hts := atoms_spec (ws := wsX3_isTurned) B.pre
  have hown : s.vm.findClass RX3 = some m.cls := findClass_of_methodNamed B.named
  have hlocks := B.notSynchronized
  refine im_Q (fun Q eQ => ?_)
  have hl := lv_entry [.int x0, .int x1] (n := 4) (Nat.le_of_ble_eq_true rfl)
  rw [show entryFrame m args 4 = entryFrame m ([.int x0, .int x1] : List Value).toArray 4 by rw [eargs], lg_entry_eq]
  generalize (lg_sl ([.int x0, .int x1]) ++ List.replicate (4 - (lg_sl ([.int x0, .int x1])).length) Slot.unset).toArray = ls at hl ⊢
  have hl : lv_has ls 4 [(0, .int x0), (1, .int x1)] := hl
  rw [im_X3_isTurned] at h
  refine lv_iload_n hx hb dX3_isTurned_0 rfl (lv_at hl 0 rfl) ?_
  refine lv_bipush (v := (12 : Int32)) hx hb dX3_isTurned_1 (by decide) ?_
  refine lv_idiv hx hb dX3_isTurned_3 (by decide) ?_
  refine lv_topi (fun v1 ev1 => ?_)
  replace h := im_lt_u h v1 ev1
  refine lv_istore_n (lv' := [(2, .int v1), (0, .int x0), (1, .int x1)]) hx hb dX3_isTurned_4 rfl hl (by decide) rfl (fun ls hl => ?_)
  refine lv_iload_n hx hb dX3_isTurned_5 rfl (lv_at hl 1 rfl) ?_
  refine lv_bipush (v := (12 : Int32)) hx hb dX3_isTurned_6 (by decide) ?_
  refine lv_irem hx hb dX3_isTurned_8 (by decide) ?_
  refine lv_topi (fun v2 ev2 => ?_)
  replace h := im_lt_u h v2 ev2
  refine lv_istore_n (lv' := [(3, .int v2), (2, .int v1), (0, .int x0), (1, .int x1)]) hx hb dX3_isTurned_9 rfl hl (by decide) rfl (fun ls hl => ?_)
  refine lv_iload_n hx hb dX3_isTurned_10 rfl (lv_at hl 3 rfl) ?_
  by_cases c11_0 : x1 = (0 : Int32)
  · replace h := im_t c11_0 h
    refine lv_tableIn (tgt := 36) hx hb dX3_isTurned_11 (by rw [c11_0]; decide) (by rw [c11_0]; decide) (by rw [c11_0]; rfl) (by decide) ?_
    refine lv_iload_n hx hb dX3_isTurned_36 rfl (lv_at hl 0 rfl) ?_
    refine lv_iload_n hx hb dX3_isTurned_37 rfl (lv_at hl 1 rfl) ?_
    refine lv_iadd hx hb dX3_isTurned_38 ?_
    refine lv_topi (fun v3 ev3 => ?_)
    replace h := im_lt_u h v3 ev3
    refine lv_iconst (v := (2 : Int32)) hx hb dX3_isTurned_39 (by decide) ?_
    refine lv_irem hx hb dX3_isTurned_40 (by decide) ?_
    refine lv_topi (fun v4 ev4 => ?_)
    replace h := im_lt_u h v4 ev4
    refine lv_if_ne (tgt := 48) hx hb dX3_isTurned_41 (by decide) (fun c41 => ?_) (fun c41 => ?_)
    · replace h := im_f c41 h
      refine lv_iconst (v := (0 : Int32)) hx hb dX3_isTurned_48 (by decide) ?_
      rw [eQ]
      exact W.zret (ty := .boolean) (v := (0 : Int32)) hx hb hr rfl (fun t ht hW => ⟨_, rfl, Option.some.inj h, ht⟩) (fun _ h9 => by cases h9) dX3_isTurned_49
    · replace h := im_t c41 h
      refine lv_iconst (v := (1 : Int32)) hx hb dX3_isTurned_44 (by decide) ?_
      refine lv_goto (tgt := 49) hx hb dX3_isTurned_45 (by decide) ?_
      rw [eQ]
      exact W.zret (ty := .boolean) (v := (1 : Int32)) hx hb hr rfl (fun t ht hW => ⟨_, rfl, Option.some.inj h, ht⟩) (fun _ h9 => by cases h9) dX3_isTurned_49
  · replace h := im_f c11_0 h
    by_cases c11_1 : x1 = (1 : Int32)
    · replace h := im_t c11_1 h
      refine lv_tableIn (tgt := 50) hx hb dX3_isTurned_11 (by rw [c11_1]; decide) (by rw [c11_1]; decide) (by rw [c11_1]; rfl) (by decide) ?_
      refine lv_iload_n hx hb dX3_isTurned_50 rfl (lv_at hl 1 rfl) ?_
      refine lv_iconst (v := (2 : Int32)) hx hb dX3_isTurned_51 (by decide) ?_
      refine lv_irem hx hb dX3_isTurned_52 (by decide) ?_
      refine lv_topi (fun v5 ev5 => ?_)
      replace h := im_lt_u h v5 ev5
      refine lv_if_ne (tgt := 60) hx hb dX3_isTurned_53 (by decide) (fun c53 => ?_) (fun c53 => ?_)
      · replace h := im_f c53 h
        refine lv_iconst (v := (0 : Int32)) hx hb dX3_isTurned_60 (by decide) ?_
        rw [eQ]
        exact W.zret (ty := .boolean) (v := (0 : Int32)) hx hb hr rfl (fun t ht hW => ⟨_, rfl, Option.some.inj h, ht⟩) (fun _ h9 => by cases h9) dX3_isTurned_61
      · replace h := im_t c53 h
        refine lv_iconst (v := (1 : Int32)) hx hb dX3_isTurned_56 (by decide) ?_
        refine lv_goto (tgt := 61) hx hb dX3_isTurned_57 (by decide) ?_
        rw [eQ]
        exact W.zret (ty := .boolean) (v := (1 : Int32)) hx hb hr rfl (fun t ht hW => ⟨_, rfl, Option.some.inj h, ht⟩) (fun _ h9 => by cases h9) dX3_isTurned_61
    · replace h := im_f c11_1 h
      by_cases c11_2 : x1 = (2 : Int32)
      · replace h := im_t c11_2 h
        refine lv_tableIn (tgt := 62) hx hb dX3_isTurned_11 (by rw [c11_2]; decide) (by rw [c11_2]; decide) (by rw [c11_2]; rfl) (by decide) ?_
        refine lv_iload_n hx hb dX3_isTurned_62 rfl (lv_at hl 0 rfl) ?_
        refine lv_iconst (v := (3 : Int32)) hx hb dX3_isTurned_63 (by decide) ?_
        refine lv_irem hx hb dX3_isTurned_64 (by decide) ?_
        refine lv_topi (fun v6 ev6 => ?_)
        replace h := im_lt_u h v6 ev6
        refine lv_if_ne (tgt := 72) hx hb dX3_isTurned_65 (by decide) (fun c65 => ?_) (fun c65 => ?_)
        · replace h := im_f c65 h
          refine lv_iconst (v := (0 : Int32)) hx hb dX3_isTurned_72 (by decide) ?_
          rw [eQ]
          exact W.zret (ty := .boolean) (v := (0 : Int32)) hx hb hr rfl (fun t ht hW => ⟨_, rfl, Option.some.inj h, ht⟩) (fun _ h9 => by cases h9) dX3_isTurned_73
        · replace h := im_t c65 h
          refine lv_iconst (v := (1 : Int32)) hx hb dX3_isTurned_68 (by decide) ?_
          refine lv_goto (tgt := 73) hx hb dX3_isTurned_69 (by decide) ?_
          rw [eQ]
          exact W.zret (ty := .boolean) (v := (1 : Int32)) hx hb hr rfl (fun t ht hW => ⟨_, rfl, Option.some.inj h, ht⟩) (fun _ h9 => by cases h9) dX3_isTurned_73
      · replace h := im_f c11_2 h
        refine lv_tableOut (tgt := 74) hx hb dX3_isTurned_11 (by have e11_0 : x1.toInt ≠ 0 := fun q => c11_0 (Int32.toInt_inj.mp (q.trans (by decide))); have e11_1 : x1.toInt ≠ 1 := fun q => c11_1 (Int32.toInt_inj.mp (q.trans (by decide))); have e11_2 : x1.toInt ≠ 2 := fun q => c11_2 (Int32.toInt_inj.mp (q.trans (by decide))); omega) (by decide) ?_
        refine lv_iload_n hx hb dX3_isTurned_74 rfl (lv_at hl 0 rfl) ?_
        refine lv_iload_n hx hb dX3_isTurned_75 rfl (lv_at hl 1 rfl) ?_
        refine lv_imul hx hb dX3_isTurned_76 ?_
        refine lv_topi (fun v7 ev7 => ?_)
        replace h := im_lt_u h v7 ev7
        refine lv_iconst (v := (3 : Int32)) hx hb dX3_isTurned_77 (by decide) ?_
        refine lv_irem hx hb dX3_isTurned_78 (by decide) ?_
        refine lv_topi (fun v8 ev8 => ?_)
        replace h := im_lt_u h v8 ev8
        refine lv_if_ne (tgt := 86) hx hb dX3_isTurned_79 (by decide) (fun c79 => ?_) (fun c79 => ?_)
        · replace h := im_f c79 h
          refine lv_iconst (v := (0 : Int32)) hx hb dX3_isTurned_86 (by decide) ?_
          rw [eQ]
          exact W.zret (ty := .boolean) (v := (0 : Int32)) hx hb hr rfl (fun t ht hW => ⟨_, rfl, Option.some.inj h, ht⟩) (fun _ h9 => by cases h9) dX3_isTurned_87
        · replace h := im_t c79 h
          refine lv_iconst (v := (1 : Int32)) hx hb dX3_isTurned_82 (by decide) ?_
          refine lv_goto (tgt := 87) hx hb dX3_isTurned_83 (by decide) ?_
          rw [eQ]
          exact W.zret (ty := .boolean) (v := (1 : Int32)) hx hb hr rfl (fun t ht hW => ⟨_, rfl, Option.some.inj h, ht⟩) (fun _ h9 => by cases h9) dX3_isTurned_87
def im_X3_runPenalty_L8 (x2 : Int32) (x1 : Int32) (n_p0 : Nat) (f_p0 : Nat → Int32) : Nat → Int32 → Int32 → Int32 → Option (Int32)
  | 0, _, _, _ => none
  | n + 1, v1, v2, v3 => if (12 : Int32) ≤ v3 then (some v1) else im_j2 (fun (v5 : Int32) (v6 : Int32) => im_j2 (fun (v8 : Int32) (v9 : Int32) => im_lt (v3 + (1 : Int32)) (fun v11 => (im_X3_runPenalty_L8 x2 x1 n_p0 f_p0 n v8 v9 v11))) (fun K10 => if v6 = 0 then (K10 v1 v5) else im_j2 (fun (v12 : Int32) (v13 : Int32) => im_lt (v13 + v12) (fun v15 => (K10 v15 (0 : Int32)))) (fun K14 => if v5 < (4 : Int32) then (K14 (0 : Int32) v1) else im_lt (v5 - (2 : Int32)) (fun v16 => (K14 v16 v1))))) (fun K7 => im_j1 (fun (v17 : Int32) => (K7 v17 (1 : Int32))) (fun K18 => im_lt (v2 + (1 : Int32)) (fun v19 => im_lt (v3 * x2) (fun v20 => im_lt (x1 + v20) (fun v21 => if v3 = (11 : Int32) then (K18 v19) else im_ld n_p0 f_p0 v21 (fun v22 => im_lt (v21 + x2) (fun v23 => im_ld n_p0 f_p0 v23 (fun v24 => if v22 = v24 then (K7 v19 (0 : Int32)) else (K18 v19)))))))))
def im_X3_runPenalty (x1 : Int32) (x2 : Int32) (n_p0 : Nat) (f_p0 : Nat → Int32) : Option (Int32) := (im_X3_runPenalty_L8 x2 x1 n_p0 f_p0 5000 (0 : Int32) (0 : Int32) (0 : Int32))
abbrev rm_X3_runPenalty : Room := { frames := 0, cells := 0, slots := 0, locals := 0 }
set_option maxHeartbeats 4000000 in
set_option maxRecDepth 100000 in
theorem c_X3_runPenalty (l : Launch) (dC : Nat → ClassId) (dI : Nat → Nat → Nat) (cI cJ cZ : ClassId) (a_p0 : Nat) (n_p0 : Nat) (f_p0 : Nat → Int32) (x1 : Int32) (x2 : Int32) {r : Int32} (h : im_X3_runPenalty x1 x2 n_p0 f_p0 = some r) : Met l yX3_runPenalty wsX3_runPenalty rm_X3_runPenalty (va_Pc [.ref a_p0, .int x1, .int x2] (fun U => va_P (dC, dI) vwCl [(a_p0, .inl (cI, n_p0, .inl f_p0))] U.heap ∧ va_K (dC, dI) vwCl [(cI, .int), (cJ, .long), (cZ, .boolean)] U)) (vp_Si (fun r9 => r9 = r)) 0 0 (fun _ => False) := by
  refine Met.ofW (cc := cX3_runPenalty) (maxL := 8) (ret := (some .int)) (by decide) rfl ?_
  intro p e s m args below meth c s₁ B hml hv
  obtain ⟨eargs, hP, hK⟩ := hv
  have hx := B.exec
  have hb := B.bytes
  have hr := B.returns
  have hts := atoms_spec (ws := wsX3_runPenalty) B.pre
  have hown : s.vm.findClass RX3 = some m.cls := findClass_of_methodNamed B.named
  have hlocks := B.notSynchronized
  refine im_Q (fun Q eQ => ?_)
  have hl := lv_entry [.ref a_p0, .int x1, .int x2] (n := 8) (Nat.le_of_ble_eq_true rfl)
  rw [show entryFrame m args 8 = entryFrame m ([.ref a_p0, .int x1, .int x2] : List Value).toArray 8 by rw [eargs], lg_entry_eq]
  generalize (lg_sl ([.ref a_p0, .int x1, .int x2]) ++ List.replicate (8 - (lg_sl ([.ref a_p0, .int x1, .int x2])).length) Slot.unset).toArray = ls at hl ⊢
  have hl : lv_has ls 8 [(0, .ref a_p0), (1, .int x1), (2, .int x2)] := hl
  rw [im_X3_runPenalty] at h
  refine lv_iconst (v := (0 : Int32)) hx hb dX3_runPenalty_0 (by decide) ?_
  refine lv_istore_n (lv' := [(3, .int (0 : Int32)), (0, .ref a_p0), (1, .int x1), (2, .int x2)]) hx hb dX3_runPenalty_1 rfl hl (by decide) rfl (fun ls hl => ?_)
  refine lv_iconst (v := (0 : Int32)) hx hb dX3_runPenalty_2 (by decide) ?_
  refine lv_istore (lv' := [(4, .int (0 : Int32)), (3, .int (0 : Int32)), (0, .ref a_p0), (1, .int x1), (2, .int x2)]) hx hb dX3_runPenalty_3 hl (by decide) rfl (fun ls hl => ?_)
  refine lv_iconst (v := (0 : Int32)) hx hb dX3_runPenalty_5 (by decide) ?_
  refine lv_istore (lv' := [(5, .int (0 : Int32)), (4, .int (0 : Int32)), (3, .int (0 : Int32)), (0, .ref a_p0), (1, .int x1), (2, .int x2)]) hx hb dX3_runPenalty_6 hl (by decide) rfl (fun ls hl => ?_)
  have Lp4 : ∀ (n : Nat) (v1 : Int32) (v2 : Int32) (v3 : Int32), im_X3_runPenalty_L8 x2 x1 n_p0 f_p0 n v1 v2 v3 = some r → ∀ (ls : Array Slot), lv_has ls 8 [(0, .ref a_p0), (1, .int x1), (2, .int x2), (3, .int v1), (4, .int v2), (5, .int v3)] → W p l e (headSpec wsX3_runPenalty rm_X3_runPenalty).room s m args below meth c s.heap [] 0 0 Q (F0 m 8 ls []) := by
    intro n
    induction n with
    | zero => intro v1 v2 v3 h; rw [im_X3_runPenalty_L8] at h; cases h
    | succ n ih =>
      intro v1 v2 v3 h ls hl
      rw [im_X3_runPenalty_L8] at h
      refine lv_iload hx hb dX3_runPenalty_8 (lv_at hl 5 rfl) ?_
      refine lv_bipush (v := (12 : Int32)) hx hb dX3_runPenalty_10 (by decide) ?_
      refine lv_icmp_ge (tgt := 84) hx hb dX3_runPenalty_12 (by decide) (fun c12 => ?_) (fun c12 => ?_)
      · replace h := im_t c12 h
        refine lv_iload_n hx hb dX3_runPenalty_84 rfl (lv_at hl 3 rfl) ?_
        rw [eQ]
        exact W.iret (v := v1) hx hb hr (fun t ht hW => ⟨_, rfl, Option.some.inj h, ht⟩) (fun _ h9 => by cases h9) dX3_runPenalty_85
      · replace h := im_f c12 h
        refine im_j2_u (P := fun v5 v6 => ∀ (ls : Array Slot), lv_has ls 8 [(0, .ref a_p0), (1, .int x1), (2, .int x2), (3, .int v1), (4, .int v5), (5, .int v3)] → W p l e (headSpec wsX3_runPenalty rm_X3_runPenalty).room s m args below meth c s.heap [] 0 0 Q (F0 m 51 ls [.int v6])) h (fun v5 v6 h ls hl => ?_) (fun K7 J7 h => ?_)
        · refine im_j2_u (P := fun v8 v9 => ∀ (ls : Array Slot), lv_has ls 8 [(0, .ref a_p0), (1, .int x1), (2, .int x2), (3, .int v8), (4, .int v9), (5, .int v3)] → W p l e (headSpec wsX3_runPenalty rm_X3_runPenalty).room s m args below meth c s.heap [] 0 0 Q (F0 m 78 ls [])) h (fun v8 v9 h ls hl => ?_) (fun K10 J10 h => ?_)
          · obtain ⟨v11, ev11⟩ : ∃ y : Int32, y = (v3 + (1 : Int32)) := ⟨_, rfl⟩
            replace h := im_lt_u h v11 ev11
            refine lv_iinc (v := v11) (lv' := [(5, .int v11), (0, .ref a_p0), (1, .int x1), (2, .int x2), (3, .int v8), (4, .int v9)]) hx hb dX3_runPenalty_78 hl (k := 5) rfl (by rw [ev11]; rfl) (by decide) rfl (fun ls hl => ?_)
            refine lv_goto (tgt := 8) hx hb dX3_runPenalty_81 (by decide) ?_
            exact ih v8 v9 v11 h _ (lv_sub hl [1, 2, 3, 4, 5, 0] rfl)
          · refine lv_istore (lv' := [(7, .int v6), (0, .ref a_p0), (1, .int x1), (2, .int x2), (3, .int v1), (4, .int v5), (5, .int v3)]) hx hb dX3_runPenalty_51 hl (by decide) rfl (fun ls hl => ?_)
            refine lv_iload hx hb dX3_runPenalty_53 (lv_at hl 0 rfl) ?_
            refine lv_if_eq (tgt := 78) hx hb dX3_runPenalty_55 (by decide) (fun c55 => ?_) (fun c55 => ?_)
            · replace h := im_t c55 h
              exact J10 v1 v5 h _ (lv_sub hl [1, 2, 3, 4, 5, 6] rfl)
            · replace h := im_f c55 h
              refine im_j2_u (P := fun v12 v13 => ∀ (ls : Array Slot), lv_has ls 8 [(0, .ref a_p0), (1, .int x1), (2, .int x2), (5, .int v3)] → W p l e (headSpec wsX3_runPenalty rm_X3_runPenalty).room s m args below meth c s.heap [] 0 0 Q (F0 m 73 ls [.int v12, .int v13])) h (fun v12 v13 h ls hl => ?_) (fun K14 J14 h => ?_)
              · refine lv_iadd hx hb dX3_runPenalty_73 ?_
                refine lv_topi (fun v15 ev15 => ?_)
                replace h := im_lt_u h v15 ev15
                refine lv_istore_n (lv' := [(3, .int v15), (0, .ref a_p0), (1, .int x1), (2, .int x2), (5, .int v3)]) hx hb dX3_runPenalty_74 rfl hl (by decide) rfl (fun ls hl => ?_)
                refine lv_iconst (v := (0 : Int32)) hx hb dX3_runPenalty_75 (by decide) ?_
                refine lv_istore (lv' := [(4, .int (0 : Int32)), (3, .int v15), (0, .ref a_p0), (1, .int x1), (2, .int x2), (5, .int v3)]) hx hb dX3_runPenalty_76 hl (by decide) rfl (fun ls hl => ?_)
                exact J10 v15 (0 : Int32) h _ (lv_sub hl [2, 3, 4, 1, 0, 5] rfl)
              · refine lv_iload_n hx hb dX3_runPenalty_58 rfl (lv_at hl 4 rfl) ?_
                refine lv_iload hx hb dX3_runPenalty_59 (lv_at hl 5 rfl) ?_
                refine lv_iconst (v := (4 : Int32)) hx hb dX3_runPenalty_61 (by decide) ?_
                refine lv_icmp_lt (tgt := 72) hx hb dX3_runPenalty_62 (by decide) (fun c62 => ?_) (fun c62 => ?_)
                · replace h := im_t c62 h
                  refine lv_iconst (v := (0 : Int32)) hx hb dX3_runPenalty_72 (by decide) ?_
                  exact J14 (0 : Int32) v1 h _ (lv_sub hl [1, 2, 3, 6] rfl)
                · replace h := im_f c62 h
                  refine lv_iload hx hb dX3_runPenalty_65 (lv_at hl 5 rfl) ?_
                  refine lv_iconst (v := (2 : Int32)) hx hb dX3_runPenalty_67 (by decide) ?_
                  refine lv_isub hx hb dX3_runPenalty_68 ?_
                  refine lv_topi (fun v16 ev16 => ?_)
                  replace h := im_lt_u h v16 ev16
                  refine lv_goto (tgt := 73) hx hb dX3_runPenalty_69 (by decide) ?_
                  exact J14 v16 v1 h _ (lv_sub hl [1, 2, 3, 6] rfl)
        · refine im_j1_u (P := fun v17 => ∀ (ls : Array Slot), lv_has ls 8 [(0, .ref a_p0), (1, .int x1), (2, .int x2), (3, .int v1), (4, .int v17), (5, .int v3)] → W p l e (headSpec wsX3_runPenalty rm_X3_runPenalty).room s m args below meth c s.heap [] 0 0 Q (F0 m 46 ls [])) h (fun v17 h ls hl => ?_) (fun K18 J18 h => ?_)
          · refine lv_iconst (v := (1 : Int32)) hx hb dX3_runPenalty_46 (by decide) ?_
            refine lv_goto (tgt := 51) hx hb dX3_runPenalty_47 (by decide) ?_
            exact J7 v17 (1 : Int32) h _ (lv_sub hl [0, 1, 2, 3, 4, 5] rfl)
          · obtain ⟨v19, ev19⟩ : ∃ y : Int32, y = (v2 + (1 : Int32)) := ⟨_, rfl⟩
            replace h := im_lt_u h v19 ev19
            refine lv_iinc (v := v19) (lv' := [(4, .int v19), (0, .ref a_p0), (1, .int x1), (2, .int x2), (3, .int v1), (5, .int v3)]) hx hb dX3_runPenalty_15 hl (k := 4) rfl (by rw [ev19]; rfl) (by decide) rfl (fun ls hl => ?_)
            refine lv_iload_n hx hb dX3_runPenalty_18 rfl (lv_at hl 2 rfl) ?_
            refine lv_iload hx hb dX3_runPenalty_19 (lv_at hl 5 rfl) ?_
            refine lv_iload_n hx hb dX3_runPenalty_21 rfl (lv_at hl 3 rfl) ?_
            refine lv_imul hx hb dX3_runPenalty_22 ?_
            refine lv_topi (fun v20 ev20 => ?_)
            replace h := im_lt_u h v20 ev20
            refine lv_iadd hx hb dX3_runPenalty_23 ?_
            refine lv_topi (fun v21 ev21 => ?_)
            replace h := im_lt_u h v21 ev21
            refine lv_istore (lv' := [(6, .int v21), (4, .int v19), (0, .ref a_p0), (1, .int x1), (2, .int x2), (3, .int v1), (5, .int v3)]) hx hb dX3_runPenalty_24 hl (by decide) rfl (fun ls hl => ?_)
            refine lv_iload hx hb dX3_runPenalty_26 (lv_at hl 6 rfl) ?_
            refine lv_bipush (v := (11 : Int32)) hx hb dX3_runPenalty_28 (by decide) ?_
            refine lv_icmp_eq (tgt := 46) hx hb dX3_runPenalty_30 (by decide) (fun c30 => ?_) (fun c30 => ?_)
            · replace h := im_t c30 h
              exact J18 v19 h _ (lv_sub hl [2, 3, 4, 5, 1, 6] rfl)
            · replace h := im_f c30 h
              refine lv_aload_n hx hb dX3_runPenalty_33 rfl (lv_at hl 2 rfl) ?_
              refine lv_iload hx hb dX3_runPenalty_34 (lv_at hl 0 rfl) ?_
              obtain ⟨q36, h⟩ := im_ld_u h
              refine va_iald hx hb hK hP 0 0 rfl rfl q36 dX3_runPenalty_36 ?_
              refine lv_topi (fun v22 ev22 => ?_)
              replace h := h v22 ev22
              refine lv_aload_n hx hb dX3_runPenalty_37 rfl (lv_at hl 2 rfl) ?_
              refine lv_iload hx hb dX3_runPenalty_38 (lv_at hl 0 rfl) ?_
              refine lv_iload_n hx hb dX3_runPenalty_40 rfl (lv_at hl 4 rfl) ?_
              refine lv_iadd hx hb dX3_runPenalty_41 ?_
              refine lv_topi (fun v23 ev23 => ?_)
              replace h := im_lt_u h v23 ev23
              obtain ⟨q42, h⟩ := im_ld_u h
              refine va_iald hx hb hK hP 0 0 rfl rfl q42 dX3_runPenalty_42 ?_
              refine lv_topi (fun v24 ev24 => ?_)
              replace h := h v24 ev24
              refine lv_icmp_eq (tgt := 50) hx hb dX3_runPenalty_43 (by decide) (fun c43 => ?_) (fun c43 => ?_)
              · replace h := im_t c43 h
                refine lv_iconst (v := (0 : Int32)) hx hb dX3_runPenalty_50 (by decide) ?_
                exact J7 v19 (0 : Int32) h _ (lv_sub hl [2, 3, 4, 5, 1, 6] rfl)
              · replace h := im_f c43 h
                exact J18 v19 h _ (lv_sub hl [2, 3, 4, 5, 1, 6] rfl)
  exact Lp4 5000 (0 : Int32) (0 : Int32) (0 : Int32) h _ (lv_sub hl [3, 4, 5, 2, 1, 0] rfl)
def im_X3_startsBlock (x1 : Int32) (n_p0 : Nat) (f_p0 : Nat → Int32) : Option (Int32) := im_lt (x1 - x1 / (12 : Int32) * (12 : Int32)) (fun v1 => if v1 = (11 : Int32) then (some (0 : Int32)) else im_lt (x1 / (12 : Int32)) (fun v2 => if v2 = (11 : Int32) then (some (0 : Int32)) else im_j0 ((some (0 : Int32))) (fun K3 => im_ld n_p0 f_p0 x1 (fun v4 => im_lt (x1 + (1 : Int32)) (fun v5 => im_ld n_p0 f_p0 v5 (fun v6 => if v4 = v6 then im_lt (x1 + (12 : Int32)) (fun v7 => im_ld n_p0 f_p0 v7 (fun v8 => if v4 = v8 then im_lt (x1 + (12 : Int32)) (fun v9 => im_lt (v9 + (1 : Int32)) (fun v10 => im_ld n_p0 f_p0 v10 (fun v11 => if v4 = v11 then (some (1 : Int32)) else (K3)))) else (K3))) else (K3)))))))
abbrev rm_X3_startsBlock : Room := { frames := 0, cells := 0, slots := 0, locals := 0 }
set_option maxHeartbeats 4000000 in
set_option maxRecDepth 100000 in
theorem c_X3_startsBlock (l : Launch) (dC : Nat → ClassId) (dI : Nat → Nat → Nat) (cI cJ cZ : ClassId) (a_p0 : Nat) (n_p0 : Nat) (f_p0 : Nat → Int32) (x1 : Int32) {r : Int32} (h : im_X3_startsBlock x1 n_p0 f_p0 = some r) : Met l yX3_startsBlock wsX3_startsBlock rm_X3_startsBlock (va_Pc [.ref a_p0, .int x1] (fun U => va_P (dC, dI) vwCl [(a_p0, .inl (cI, n_p0, .inl f_p0))] U.heap ∧ va_K (dC, dI) vwCl [(cI, .int), (cJ, .long), (cZ, .boolean)] U)) (vp_Si (fun r9 => r9 = r)) 0 0 (fun _ => False) := by
  refine Met.ofW (cc := cX3_startsBlock) (maxL := 3) (ret := (some .boolean)) (by decide) rfl ?_
  intro p e s m args below meth c s₁ B hml hv
  obtain ⟨eargs, hP, hK⟩ := hv
  have hx := B.exec
  have hb := B.bytes
  have hr := B.returns
  have hts := atoms_spec (ws := wsX3_startsBlock) B.pre
  have hown : s.vm.findClass RX3 = some m.cls := findClass_of_methodNamed B.named
  have hlocks := B.notSynchronized
  refine im_Q (fun Q eQ => ?_)
  have hl := lv_entry [.ref a_p0, .int x1] (n := 3) (Nat.le_of_ble_eq_true rfl)
  rw [show entryFrame m args 3 = entryFrame m ([.ref a_p0, .int x1] : List Value).toArray 3 by rw [eargs], lg_entry_eq]
  generalize (lg_sl ([.ref a_p0, .int x1]) ++ List.replicate (3 - (lg_sl ([.ref a_p0, .int x1])).length) Slot.unset).toArray = ls at hl ⊢
  have hl : lv_has ls 3 [(0, .ref a_p0), (1, .int x1)] := hl
  rw [im_X3_startsBlock] at h
  refine lv_iload_n hx hb dX3_startsBlock_0 rfl (lv_at hl 1 rfl) ?_
  refine lv_bipush (v := (12 : Int32)) hx hb dX3_startsBlock_1 (by decide) ?_
  refine lv_irem hx hb dX3_startsBlock_3 (by decide) ?_
  refine lv_topi (fun v1 ev1 => ?_)
  replace h := im_lt_u h v1 ev1
  refine lv_bipush (v := (11 : Int32)) hx hb dX3_startsBlock_4 (by decide) ?_
  refine lv_icmp_eq (tgt := 18) hx hb dX3_startsBlock_6 (by decide) (fun c6 => ?_) (fun c6 => ?_)
  · replace h := im_t c6 h
    refine lv_iconst (v := (0 : Int32)) hx hb dX3_startsBlock_18 (by decide) ?_
    rw [eQ]
    exact W.zret (ty := .boolean) (v := (0 : Int32)) hx hb hr rfl (fun t ht hW => ⟨_, rfl, Option.some.inj h, ht⟩) (fun _ h9 => by cases h9) dX3_startsBlock_19
  · replace h := im_f c6 h
    refine lv_iload_n hx hb dX3_startsBlock_9 rfl (lv_at hl 1 rfl) ?_
    refine lv_bipush (v := (12 : Int32)) hx hb dX3_startsBlock_10 (by decide) ?_
    refine lv_idiv hx hb dX3_startsBlock_12 (by decide) ?_
    refine lv_topi (fun v2 ev2 => ?_)
    replace h := im_lt_u h v2 ev2
    refine lv_bipush (v := (11 : Int32)) hx hb dX3_startsBlock_13 (by decide) ?_
    refine lv_icmp_ne (tgt := 20) hx hb dX3_startsBlock_15 (by decide) (fun c15 => ?_) (fun c15 => ?_)
    · replace h := im_f c15 h
      refine im_j0_u (P := ∀ (ls : Array Slot), lv_has ls 3 [] → W p l e (headSpec wsX3_startsBlock rm_X3_startsBlock).room s m args below meth c s.heap [] 0 0 Q (F0 m 59 ls [])) h (fun h ls hl => ?_) (fun K3 J3 h => ?_)
      · refine lv_iconst (v := (0 : Int32)) hx hb dX3_startsBlock_59 (by decide) ?_
        rw [eQ]
        exact W.zret (ty := .boolean) (v := (0 : Int32)) hx hb hr rfl (fun t ht hW => ⟨_, rfl, Option.some.inj h, ht⟩) (fun _ h9 => by cases h9) dX3_startsBlock_60
      · refine lv_aload_n hx hb dX3_startsBlock_20 rfl (lv_at hl 0 rfl) ?_
        refine lv_iload_n hx hb dX3_startsBlock_21 rfl (lv_at hl 1 rfl) ?_
        obtain ⟨q22, h⟩ := im_ld_u h
        refine va_iald hx hb hK hP 0 0 rfl rfl q22 dX3_startsBlock_22 ?_
        refine lv_topi (fun v4 ev4 => ?_)
        replace h := h v4 ev4
        refine lv_istore_n (lv' := [(2, .int v4), (0, .ref a_p0), (1, .int x1)]) hx hb dX3_startsBlock_23 rfl hl (by decide) rfl (fun ls hl => ?_)
        refine lv_iload_n hx hb dX3_startsBlock_24 rfl (lv_at hl 0 rfl) ?_
        refine lv_aload_n hx hb dX3_startsBlock_25 rfl (lv_at hl 1 rfl) ?_
        refine lv_iload_n hx hb dX3_startsBlock_26 rfl (lv_at hl 2 rfl) ?_
        refine lv_iconst (v := (1 : Int32)) hx hb dX3_startsBlock_27 (by decide) ?_
        refine lv_iadd hx hb dX3_startsBlock_28 ?_
        refine lv_topi (fun v5 ev5 => ?_)
        replace h := im_lt_u h v5 ev5
        obtain ⟨q29, h⟩ := im_ld_u h
        refine va_iald hx hb hK hP 0 0 rfl rfl q29 dX3_startsBlock_29 ?_
        refine lv_topi (fun v6 ev6 => ?_)
        replace h := h v6 ev6
        refine lv_icmp_ne (tgt := 59) hx hb dX3_startsBlock_30 (by decide) (fun c30 => ?_) (fun c30 => ?_)
        · replace h := im_f c30 h
          exact J3  h _ (lv_sub hl [] rfl)
        · replace h := im_t c30 h
          refine lv_iload_n hx hb dX3_startsBlock_33 rfl (lv_at hl 0 rfl) ?_
          refine lv_aload_n hx hb dX3_startsBlock_34 rfl (lv_at hl 1 rfl) ?_
          refine lv_iload_n hx hb dX3_startsBlock_35 rfl (lv_at hl 2 rfl) ?_
          refine lv_bipush (v := (12 : Int32)) hx hb dX3_startsBlock_36 (by decide) ?_
          refine lv_iadd hx hb dX3_startsBlock_38 ?_
          refine lv_topi (fun v7 ev7 => ?_)
          replace h := im_lt_u h v7 ev7
          obtain ⟨q39, h⟩ := im_ld_u h
          refine va_iald hx hb hK hP 0 0 rfl rfl q39 dX3_startsBlock_39 ?_
          refine lv_topi (fun v8 ev8 => ?_)
          replace h := h v8 ev8
          refine lv_icmp_ne (tgt := 59) hx hb dX3_startsBlock_40 (by decide) (fun c40 => ?_) (fun c40 => ?_)
          · replace h := im_f c40 h
            exact J3  h _ (lv_sub hl [] rfl)
          · replace h := im_t c40 h
            refine lv_iload_n hx hb dX3_startsBlock_43 rfl (lv_at hl 0 rfl) ?_
            refine lv_aload_n hx hb dX3_startsBlock_44 rfl (lv_at hl 1 rfl) ?_
            refine lv_iload_n hx hb dX3_startsBlock_45 rfl (lv_at hl 2 rfl) ?_
            refine lv_bipush (v := (12 : Int32)) hx hb dX3_startsBlock_46 (by decide) ?_
            refine lv_iadd hx hb dX3_startsBlock_48 ?_
            refine lv_topi (fun v9 ev9 => ?_)
            replace h := im_lt_u h v9 ev9
            refine lv_iconst (v := (1 : Int32)) hx hb dX3_startsBlock_49 (by decide) ?_
            refine lv_iadd hx hb dX3_startsBlock_50 ?_
            refine lv_topi (fun v10 ev10 => ?_)
            replace h := im_lt_u h v10 ev10
            obtain ⟨q51, h⟩ := im_ld_u h
            refine va_iald hx hb hK hP 0 0 rfl rfl q51 dX3_startsBlock_51 ?_
            refine lv_topi (fun v11 ev11 => ?_)
            replace h := h v11 ev11
            refine lv_icmp_ne (tgt := 59) hx hb dX3_startsBlock_52 (by decide) (fun c52 => ?_) (fun c52 => ?_)
            · replace h := im_f c52 h
              exact J3  h _ (lv_sub hl [] rfl)
            · replace h := im_t c52 h
              refine lv_iconst (v := (1 : Int32)) hx hb dX3_startsBlock_55 (by decide) ?_
              refine lv_goto (tgt := 60) hx hb dX3_startsBlock_56 (by decide) ?_
              rw [eQ]
              exact W.zret (ty := .boolean) (v := (1 : Int32)) hx hb hr rfl (fun t ht hW => ⟨_, rfl, Option.some.inj h, ht⟩) (fun _ h9 => by cases h9) dX3_startsBlock_60
    · replace h := im_t c15 h
      refine lv_iconst (v := (0 : Int32)) hx hb dX3_startsBlock_18 (by decide) ?_
      rw [eQ]
      exact W.zret (ty := .boolean) (v := (0 : Int32)) hx hb hr rfl (fun t ht hW => ⟨_, rfl, Option.some.inj h, ht⟩) (fun _ h9 => by cases h9) dX3_startsBlock_19
def im_X3_penalty_L40 (K5 : Int32 → Int32 → Option (Int32)) (n_p0 : Nat) (f_p0 : Nat → Int32) : Nat → Int32 → Int32 → Int32 → Option (Int32)
  | 0, _, _, _ => none
  | n + 1, v11, v12, v13 => if (144 : Int32) ≤ v13 then (K5 v11 v12) else im_j2 (fun (v15 : Int32) (v16 : Int32) => im_lt (v16 + v15) (fun v18 => im_ld n_p0 f_p0 v13 (fun v19 => im_lt (v12 + v19) (fun v20 => im_lt (v13 + (1 : Int32)) (fun v21 => (im_X3_penalty_L40 K5 n_p0 f_p0 n v18 v20 v21)))))) (fun K17 => im_b1 (im_X3_startsBlock v13 n_p0 f_p0) (fun v22 => if v22 = 0 then (K17 (0 : Int32) v11) else (K17 (3 : Int32) v11)))
def im_X3_penalty_L6 (K2 : Int32 → Option (Int32)) (n_p0 : Nat) (f_p0 : Nat → Int32) : Nat → Int32 → Int32 → Option (Int32)
  | 0, _, _ => none
  | n + 1, v23, v24 => if (12 : Int32) ≤ v24 then (K2 v23) else im_lt (v24 * (12 : Int32)) (fun v26 => im_b1 (im_X3_runPenalty v26 (1 : Int32) n_p0 f_p0) (fun v27 => im_b1 (im_X3_runPenalty v24 (12 : Int32) n_p0 f_p0) (fun v28 => im_lt (v27 + v28) (fun v29 => im_lt (v23 + v29) (fun v30 => im_lt (v24 + (1 : Int32)) (fun v31 => (im_X3_penalty_L6 K2 n_p0 f_p0 n v30 v31)))))))
def im_X3_penalty (n_p0 : Nat) (f_p0 : Nat → Int32) : Option (Int32) := im_j1 (fun (v1 : Int32) => im_j2 (fun (v3 : Int32) (v4 : Int32) => im_lt ((2 : Int32) * v4) (fun v6 => im_lt ((144 : Int32) - v6) (fun v7 => im_lt (if 0 ≤ v7 then v7 else 0 - v7) (fun v8 => im_lt (v8 / (2 : Int32)) (fun v9 => im_lt (v3 + v9) (fun v10 => (some v10))))))) (fun K5 => (im_X3_penalty_L40 K5 n_p0 f_p0 5000 v1 (0 : Int32) (0 : Int32)))) (fun K2 => (im_X3_penalty_L6 K2 n_p0 f_p0 5000 (0 : Int32) (0 : Int32)))
abbrev rm_X3_penalty : Room := { frames := 1, cells := 0, slots := 0, locals := 60 }
theorem ab_X3_penalty_ml33 : Cond.methodLink RX3 33 Lib.Math.abs.name ∈ wsX3_penalty := by decide +kernel
theorem ab_X3_penalty_sa33 : Cond.static Lib.Math.abs.name ∈ wsX3_penalty := by decide +kernel
theorem ab_X3_penalty_iy33 : Cond.initialized "java/lang/Math" ∈ wsX3_penalty := by decide +kernel
theorem ab_X3_penalty_co33 : Cond.code Lib.Math.abs.name Lib.Math.abs.code 1 (some .int) ∈ wsX3_penalty := by decide +kernel
set_option maxHeartbeats 4000000 in
set_option maxRecDepth 100000 in
theorem c_X3_penalty (l : Launch) (dC : Nat → ClassId) (dI : Nat → Nat → Nat) (cI cJ cZ : ClassId) (a_p0 : Nat) (n_p0 : Nat) (f_p0 : Nat → Int32) {r : Int32} (h : im_X3_penalty n_p0 f_p0 = some r) : Met l yX3_penalty wsX3_penalty rm_X3_penalty (va_Pc [.ref a_p0] (fun U => va_P (dC, dI) vwCl [(a_p0, .inl (cI, n_p0, .inl f_p0))] U.heap ∧ va_K (dC, dI) vwCl [(cI, .int), (cJ, .long), (cZ, .boolean)] U)) (vp_Si (fun r9 => r9 = r)) 0 0 (fun _ => False) := by
  refine Met.ofW (cc := cX3_penalty) (maxL := 4) (ret := (some .int)) (by decide) rfl ?_
  intro p e s m args below meth c s₁ B hml hv
  obtain ⟨eargs, hP, hK⟩ := hv
  have hx := B.exec
  have hb := B.bytes
  have hr := B.returns
  have hts := atoms_spec (ws := wsX3_penalty) B.pre
  have hown : s.vm.findClass RX3 = some m.cls := findClass_of_methodNamed B.named
  have hlocks := B.notSynchronized
  refine im_Q (fun Q eQ => ?_)
  have hl := lv_entry [.ref a_p0] (n := 4) (Nat.le_of_ble_eq_true rfl)
  rw [show entryFrame m args 4 = entryFrame m ([.ref a_p0] : List Value).toArray 4 by rw [eargs], lg_entry_eq]
  generalize (lg_sl ([.ref a_p0]) ++ List.replicate (4 - (lg_sl ([.ref a_p0])).length) Slot.unset).toArray = ls at hl ⊢
  have hl : lv_has ls 4 [(0, .ref a_p0)] := hl
  rw [im_X3_penalty] at h
  refine lv_iconst (v := (0 : Int32)) hx hb dX3_penalty_0 (by decide) ?_
  refine lv_istore_n (lv' := [(1, .int (0 : Int32)), (0, .ref a_p0)]) hx hb dX3_penalty_1 rfl hl (by decide) rfl (fun ls hl => ?_)
  refine lv_iconst (v := (0 : Int32)) hx hb dX3_penalty_2 (by decide) ?_
  refine lv_istore_n (lv' := [(2, .int (0 : Int32)), (1, .int (0 : Int32)), (0, .ref a_p0)]) hx hb dX3_penalty_3 rfl hl (by decide) rfl (fun ls hl => ?_)
  refine lv_iconst (v := (0 : Int32)) hx hb dX3_penalty_4 (by decide) ?_
  refine lv_istore_n (lv' := [(3, .int (0 : Int32)), (2, .int (0 : Int32)), (1, .int (0 : Int32)), (0, .ref a_p0)]) hx hb dX3_penalty_5 rfl hl (by decide) rfl (fun ls hl => ?_)
  refine im_j1_u (P := fun v1 => ∀ (ls : Array Slot), lv_has ls 4 [(0, .ref a_p0), (1, .int v1), (2, .int (0 : Int32))] → W p l e (headSpec wsX3_penalty rm_X3_penalty).room s m args below meth c s.heap [] 0 0 Q (F0 m 38 ls [])) h (fun v1 h ls hl => ?_) (fun K2 J2 h => ?_)
  · refine lv_iconst (v := (0 : Int32)) hx hb dX3_penalty_38 (by decide) ?_
    refine lv_istore_n (lv' := [(3, .int (0 : Int32)), (0, .ref a_p0), (1, .int v1), (2, .int (0 : Int32))]) hx hb dX3_penalty_39 rfl hl (by decide) rfl (fun ls hl => ?_)
    refine im_j2_u (P := fun v3 v4 => ∀ (ls : Array Slot), lv_has ls 4 [(1, .int v3), (2, .int v4)] → W p l e (headSpec wsX3_penalty rm_X3_penalty).room s m args below meth c s.heap [] 0 0 Q (F0 m 75 ls [])) h (fun v3 v4 h ls hl => ?_) (fun K5 J5 h => ?_)
    · refine lv_iload_n hx hb dX3_penalty_75 rfl (lv_at hl 0 rfl) ?_
      refine lv_sipush (v := (144 : Int32)) hx hb dX3_penalty_76 (by decide) ?_
      refine lv_iconst (v := (2 : Int32)) hx hb dX3_penalty_79 (by decide) ?_
      refine lv_iload_n hx hb dX3_penalty_80 rfl (lv_at hl 1 rfl) ?_
      refine lv_imul hx hb dX3_penalty_81 ?_
      refine lv_topi (fun v6 ev6 => ?_)
      replace h := im_lt_u h v6 ev6
      refine lv_isub hx hb dX3_penalty_82 ?_
      refine lv_topi (fun v7 ev7 => ?_)
      replace h := im_lt_u h v7 ev7
      refine va_mabs hx hb (hml.trans hl.1.symm) hown (hts _ ab_X3_penalty_ml33) (hts _ ab_X3_penalty_sa33) (hts _ ab_X3_penalty_iy33) (hts _ ab_X3_penalty_co33) (Nat.le_of_ble_eq_true rfl) (Nat.le_of_ble_eq_true rfl) (Nat.zero_le _) (Nat.zero_le _) dX3_penalty_83 ?_
      refine lv_topi (fun v8 ev8 => ?_)
      replace h := im_lt_u h v8 ev8
      refine lv_iconst (v := (2 : Int32)) hx hb dX3_penalty_86 (by decide) ?_
      refine lv_idiv hx hb dX3_penalty_87 (by decide) ?_
      refine lv_topi (fun v9 ev9 => ?_)
      replace h := im_lt_u h v9 ev9
      refine lv_iadd hx hb dX3_penalty_88 ?_
      refine lv_topi (fun v10 ev10 => ?_)
      replace h := im_lt_u h v10 ev10
      rw [eQ]
      exact W.iret (v := v10) hx hb hr (fun t ht hW => ⟨_, rfl, Option.some.inj h, ht⟩) (fun _ h9 => by cases h9) dX3_penalty_89
    · have Lp14 : ∀ (n : Nat) (v11 : Int32) (v12 : Int32) (v13 : Int32), im_X3_penalty_L40 K5 n_p0 f_p0 n v11 v12 v13 = some r → ∀ (ls : Array Slot), lv_has ls 4 [(0, .ref a_p0), (1, .int v11), (2, .int v12), (3, .int v13)] → W p l e (headSpec wsX3_penalty rm_X3_penalty).room s m args below meth c s.heap [] 0 0 Q (F0 m 40 ls []) := by
        intro n
        induction n with
        | zero => intro v11 v12 v13 h; rw [im_X3_penalty_L40] at h; cases h
        | succ n ih =>
          intro v11 v12 v13 h ls hl
          rw [im_X3_penalty_L40] at h
          refine lv_iload_n hx hb dX3_penalty_40 rfl (lv_at hl 3 rfl) ?_
          refine lv_sipush (v := (144 : Int32)) hx hb dX3_penalty_41 (by decide) ?_
          refine lv_icmp_ge (tgt := 75) hx hb dX3_penalty_44 (by decide) (fun c44 => ?_) (fun c44 => ?_)
          · replace h := im_t c44 h
            exact J5 v11 v12 h _ (lv_sub hl [1, 2] rfl)
          · replace h := im_f c44 h
            refine im_j2_u (P := fun v15 v16 => ∀ (ls : Array Slot), lv_has ls 4 [(0, .ref a_p0), (2, .int v12), (3, .int v13)] → W p l e (headSpec wsX3_penalty rm_X3_penalty).room s m args below meth c s.heap [] 0 0 Q (F0 m 61 ls [.int v15, .int v16])) h (fun v15 v16 h ls hl => ?_) (fun K17 J17 h => ?_)
            · refine lv_iadd hx hb dX3_penalty_61 ?_
              refine lv_topi (fun v18 ev18 => ?_)
              replace h := im_lt_u h v18 ev18
              refine lv_istore_n (lv' := [(1, .int v18), (0, .ref a_p0), (2, .int v12), (3, .int v13)]) hx hb dX3_penalty_62 rfl hl (by decide) rfl (fun ls hl => ?_)
              refine lv_iload_n hx hb dX3_penalty_63 rfl (lv_at hl 2 rfl) ?_
              refine lv_aload_n hx hb dX3_penalty_64 rfl (lv_at hl 1 rfl) ?_
              refine lv_iload_n hx hb dX3_penalty_65 rfl (lv_at hl 3 rfl) ?_
              obtain ⟨q66, h⟩ := im_ld_u h
              refine va_iald hx hb hK hP 0 0 rfl rfl q66 dX3_penalty_66 ?_
              refine lv_topi (fun v19 ev19 => ?_)
              replace h := h v19 ev19
              refine lv_iadd hx hb dX3_penalty_67 ?_
              refine lv_topi (fun v20 ev20 => ?_)
              replace h := im_lt_u h v20 ev20
              refine lv_istore_n (lv' := [(2, .int v20), (1, .int v18), (0, .ref a_p0), (3, .int v13)]) hx hb dX3_penalty_68 rfl hl (by decide) rfl (fun ls hl => ?_)
              obtain ⟨v21, ev21⟩ : ∃ y : Int32, y = (v13 + (1 : Int32)) := ⟨_, rfl⟩
              replace h := im_lt_u h v21 ev21
              refine lv_iinc (v := v21) (lv' := [(3, .int v21), (2, .int v20), (1, .int v18), (0, .ref a_p0)]) hx hb dX3_penalty_69 hl (k := 3) rfl (by rw [ev21]; rfl) (by decide) rfl (fun ls hl => ?_)
              refine lv_goto (tgt := 40) hx hb dX3_penalty_72 (by decide) ?_
              exact ih v18 v20 v21 h _ (lv_sub hl [3, 2, 1, 0] rfl)
            · refine lv_iload_n hx hb dX3_penalty_47 rfl (lv_at hl 1 rfl) ?_
              refine lv_aload_n hx hb dX3_penalty_48 rfl (lv_at hl 0 rfl) ?_
              refine lv_iload_n hx hb dX3_penalty_49 rfl (lv_at hl 3 rfl) ?_
              obtain ⟨v22, y50, h⟩ := im_b1_u h
              have hPc := hP.sub (ws' := [(a_p0, .inl (cI, n_p0, .inl f_p0))]) [0] rfl
              refine vp_callSi (W.runS (As := [.ref a_p0, .int v13]) (rest := [.int v11]) ⟨hx, hb, hml, hown, hts⟩ (c_X3_startsBlock l dC dI cI cJ cZ a_p0 n_p0 f_p0 v13 y50) (va_cwS 2 hts gX3_penalty_X3_startsBlock rfl rfl rfl (by decide +kernel) ⟨Nat.le_of_ble_eq_true rfl, Nat.le_of_ble_eq_true rfl⟩) ⟨fun a U g mk q => by obtain ⟨q0, qP, qK⟩ := q; exact ⟨q0, qP, va_K.moved (u := U) (U := U.calling g mk a) (Vm.Alike.refl U.vm) qK⟩, fun U hU hW => ⟨rfl, by rw [hU]; exact hPc, va_K.moved hW.alike hK⟩⟩ rfl rfl hl.1 rfl (lv_room (Nat.le_of_ble_eq_true rfl)) dX3_penalty_50 ⟨Nat.zero_le _, Nat.zero_le _⟩) (fun w50 ew50 => ?_)
              have ew50 := ew50.symm
              subst ew50
              refine lv_if_eq (tgt := 60) hx hb dX3_penalty_53 (by decide) (fun c53 => ?_) (fun c53 => ?_)
              · replace h := im_t c53 h
                refine lv_iconst (v := (0 : Int32)) hx hb dX3_penalty_60 (by decide) ?_
                exact J17 (0 : Int32) v11 h _ (lv_sub hl [0, 2, 3] rfl)
              · replace h := im_f c53 h
                refine lv_iconst (v := (3 : Int32)) hx hb dX3_penalty_56 (by decide) ?_
                refine lv_goto (tgt := 61) hx hb dX3_penalty_57 (by decide) ?_
                exact J17 (3 : Int32) v11 h _ (lv_sub hl [0, 2, 3] rfl)
      exact Lp14 5000 v1 (0 : Int32) (0 : Int32) h _ (lv_sub hl [1, 2, 3, 0] rfl)
  · have Lp25 : ∀ (n : Nat) (v23 : Int32) (v24 : Int32), im_X3_penalty_L6 K2 n_p0 f_p0 n v23 v24 = some r → ∀ (ls : Array Slot), lv_has ls 4 [(0, .ref a_p0), (1, .int v23), (2, .int (0 : Int32)), (3, .int v24)] → W p l e (headSpec wsX3_penalty rm_X3_penalty).room s m args below meth c s.heap [] 0 0 Q (F0 m 6 ls []) := by
      intro n
      induction n with
      | zero => intro v23 v24 h; rw [im_X3_penalty_L6] at h; cases h
      | succ n ih =>
        intro v23 v24 h ls hl
        rw [im_X3_penalty_L6] at h
        refine lv_iload_n hx hb dX3_penalty_6 rfl (lv_at hl 3 rfl) ?_
        refine lv_bipush (v := (12 : Int32)) hx hb dX3_penalty_7 (by decide) ?_
        refine lv_icmp_ge (tgt := 38) hx hb dX3_penalty_9 (by decide) (fun c9 => ?_) (fun c9 => ?_)
        · replace h := im_t c9 h
          exact J2 v23 h _ (lv_sub hl [0, 1, 2] rfl)
        · replace h := im_f c9 h
          refine lv_iload_n hx hb dX3_penalty_12 rfl (lv_at hl 1 rfl) ?_
          refine lv_aload_n hx hb dX3_penalty_13 rfl (lv_at hl 0 rfl) ?_
          refine lv_iload_n hx hb dX3_penalty_14 rfl (lv_at hl 3 rfl) ?_
          refine lv_bipush (v := (12 : Int32)) hx hb dX3_penalty_15 (by decide) ?_
          refine lv_imul hx hb dX3_penalty_17 ?_
          refine lv_topi (fun v26 ev26 => ?_)
          replace h := im_lt_u h v26 ev26
          refine lv_iconst (v := (1 : Int32)) hx hb dX3_penalty_18 (by decide) ?_
          obtain ⟨v27, y19, h⟩ := im_b1_u h
          have hPc := hP.sub (ws' := [(a_p0, .inl (cI, n_p0, .inl f_p0))]) [0] rfl
          refine vp_callSi (W.runS (As := [.ref a_p0, .int v26, .int (1 : Int32)]) (rest := [.int v23]) ⟨hx, hb, hml, hown, hts⟩ (c_X3_runPenalty l dC dI cI cJ cZ a_p0 n_p0 f_p0 v26 (1 : Int32) y19) (va_cwS 3 hts gX3_penalty_X3_runPenalty rfl rfl rfl (by decide +kernel) ⟨Nat.le_of_ble_eq_true rfl, Nat.le_of_ble_eq_true rfl⟩) ⟨fun a U g mk q => by obtain ⟨q0, qP, qK⟩ := q; exact ⟨q0, qP, va_K.moved (u := U) (U := U.calling g mk a) (Vm.Alike.refl U.vm) qK⟩, fun U hU hW => ⟨rfl, by rw [hU]; exact hPc, va_K.moved hW.alike hK⟩⟩ rfl rfl hl.1 rfl (lv_room (Nat.le_of_ble_eq_true rfl)) dX3_penalty_19 ⟨Nat.zero_le _, Nat.zero_le _⟩) (fun w19 ew19 => ?_)
          have ew19 := ew19.symm
          subst ew19
          refine lv_aload_n hx hb dX3_penalty_22 rfl (lv_at hl 0 rfl) ?_
          refine lv_iload_n hx hb dX3_penalty_23 rfl (lv_at hl 3 rfl) ?_
          refine lv_bipush (v := (12 : Int32)) hx hb dX3_penalty_24 (by decide) ?_
          obtain ⟨v28, y26, h⟩ := im_b1_u h
          have hPc := hP.sub (ws' := [(a_p0, .inl (cI, n_p0, .inl f_p0))]) [0] rfl
          refine vp_callSi (W.runS (As := [.ref a_p0, .int v24, .int (12 : Int32)]) (rest := [.int v27, .int v23]) ⟨hx, hb, hml, hown, hts⟩ (c_X3_runPenalty l dC dI cI cJ cZ a_p0 n_p0 f_p0 v24 (12 : Int32) y26) (va_cwS 3 hts gX3_penalty_X3_runPenalty rfl rfl rfl (by decide +kernel) ⟨Nat.le_of_ble_eq_true rfl, Nat.le_of_ble_eq_true rfl⟩) ⟨fun a U g mk q => by obtain ⟨q0, qP, qK⟩ := q; exact ⟨q0, qP, va_K.moved (u := U) (U := U.calling g mk a) (Vm.Alike.refl U.vm) qK⟩, fun U hU hW => ⟨rfl, by rw [hU]; exact hPc, va_K.moved hW.alike hK⟩⟩ rfl rfl hl.1 rfl (lv_room (Nat.le_of_ble_eq_true rfl)) dX3_penalty_26 ⟨Nat.zero_le _, Nat.zero_le _⟩) (fun w26 ew26 => ?_)
          have ew26 := ew26.symm
          subst ew26
          refine lv_iadd hx hb dX3_penalty_29 ?_
          refine lv_topi (fun v29 ev29 => ?_)
          replace h := im_lt_u h v29 ev29
          refine lv_iadd hx hb dX3_penalty_30 ?_
          refine lv_topi (fun v30 ev30 => ?_)
          replace h := im_lt_u h v30 ev30
          refine lv_istore_n (lv' := [(1, .int v30), (0, .ref a_p0), (2, .int (0 : Int32)), (3, .int v24)]) hx hb dX3_penalty_31 rfl hl (by decide) rfl (fun ls hl => ?_)
          obtain ⟨v31, ev31⟩ : ∃ y : Int32, y = (v24 + (1 : Int32)) := ⟨_, rfl⟩
          replace h := im_lt_u h v31 ev31
          refine lv_iinc (v := v31) (lv' := [(3, .int v31), (1, .int v30), (0, .ref a_p0), (2, .int (0 : Int32))]) hx hb dX3_penalty_32 hl (k := 3) rfl (by rw [ev31]; rfl) (by decide) rfl (fun ls hl => ?_)
          refine lv_goto (tgt := 6) hx hb dX3_penalty_35 (by decide) ?_
          exact ih v30 v31 h _ (lv_sub hl [2, 1, 3, 0] rfl)
    exact Lp25 5000 (0 : Int32) (0 : Int32) h _ (lv_sub hl [3, 2, 1, 0] rfl)
