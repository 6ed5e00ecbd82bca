def im_X5_length (i_this_kind : Int32) (i_this_symbols : Int32) : Option (Int32) := if i_this_kind = (2 : Int32) then (some (144 : Int32)) else if i_this_kind = (3 : Int32) then im_lt ((6 : Int32) * i_this_symbols) (fun v3 => im_lt (v3 + (4 : Int32)) (fun v4 => (some v4))) else im_lt ((3 : Int32) * i_this_symbols) (fun v1 => im_lt (v1 + (4 : Int32)) (fun v2 => (some v2)))
abbrev rm_X5_length : Room := { frames := 0, cells := 0, slots := 0, locals := 0 }
theorem hn_X5_length_X5 : ∀ w ∈ wsX50, w ∈ wsX5_length := by decide +kernel
theorem fl_X5_length_56 : Cond.fieldLink RX5 56 "BarCodesModel" "kind" "I" ∈ wsX5_length := by decide +kernel
theorem fl_X5_length_65 : Cond.fieldLink RX5 65 "BarCodesModel" "symbols" "I" ∈ wsX5_length := by decide +kernel
set_option maxHeartbeats 4000000 in
set_option maxRecDepth 100000 in
theorem c_X5_length (l : Launch) (dC : Nat → ClassId) (dI : Nat → Nat → Nat) (cI cJ cZ : ClassId) (a_this a_this_bits a_this_values a_this_has a_this_row a_this_seen a_this_told a_this_word a_this_gone a_this_lines a_this_places a_this_square : Nat) (i_this_thrown i_this_kind i_this_form i_this_fields i_this_checks i_this_symbols i_this_size i_this_many i_this_right i_this_mended i_this_mask i_this_turned : Int32) {r : Int32} (h : im_X5_length i_this_kind i_this_symbols = some r) : Met l yX5_length wsX5_length rm_X5_length (va_Pc [.ref a_this] (fun U => va_P (dC, dI) vwCl [(a_this, .inr (4, [.int i_this_thrown, .int i_this_kind, .int i_this_form, .ref a_this_bits, .ref a_this_values, .ref a_this_has, .int i_this_fields, .int i_this_checks, .int i_this_symbols, .ref a_this_row, .int i_this_size, .ref a_this_seen, .int i_this_many, .ref a_this_told, .int i_this_right, .int i_this_mended, .int i_this_mask, .int i_this_turned, .ref a_this_word, .ref a_this_gone, .ref a_this_lines, .ref a_this_places, .ref a_this_square]))] U.heap ∧ va_K (dC, dI) vwCl [(cI, .int), (cJ, .long), (cZ, .boolean)] U)) (vp_Si (fun r9 => r9 = r)) 0 0 (fun _ => False) := by
  refine Met.ofW (cc := cX5_length) (maxL := 1) (ret := (some .int)) (by decide) rfl ?_
  intro p e s m args below meth c s₁ B hml hv
  obtain ⟨eargs, hP, hK⟩ := hv
  have hx := B.exec
  have hb := B.bytes
  have hr := B.returns
  have hts := atoms_spec (ws := wsX5_length) B.pre
  have hown : s.vm.findClass RX5 = some m.cls := findClass_of_methodNamed B.named
  have hlocks := B.notSynchronized
  refine im_Q (fun Q eQ => ?_)
  have hl := lv_entry [.ref a_this] (n := 1) (Nat.le_of_ble_eq_true rfl)
  rw [show entryFrame m args 1 = entryFrame m ([.ref a_this] : List Value).toArray 1 by rw [eargs], lg_entry_eq]
  generalize (lg_sl ([.ref a_this]) ++ List.replicate (1 - (lg_sl ([.ref a_this])).length) Slot.unset).toArray = ls at hl ⊢
  have hl : lv_has ls 1 [(0, .ref a_this)] := hl
  rw [im_X5_length] at h
  refine lv_aload_n hx hb dX5_length_0 rfl (lv_at hl 0 rfl) ?_
  refine va_get (D := (dC, dI)) (ci := 4) (v := .int i_this_kind) (C := RX5) (T := TX5) (N := 23) hx hb hts hn_X5_length_X5 hown hK hP 0 rfl rfl 1 (by decide) (hts _ fl_X5_length_56) (fun _ h9 => h9) rfl dX5_length_1 ?_
  refine lv_iconst (v := (2 : Int32)) hx hb dX5_length_4 (by decide) ?_
  refine lv_icmp_ne (tgt := 14) hx hb dX5_length_5 (by decide) (fun c5 => ?_) (fun c5 => ?_)
  · replace h := im_f c5 h
    refine lv_aload_n hx hb dX5_length_14 rfl (lv_at hl 0 rfl) ?_
    refine va_get (D := (dC, dI)) (ci := 4) (v := .int i_this_kind) (C := RX5) (T := TX5) (N := 23) hx hb hts hn_X5_length_X5 hown hK hP 0 rfl rfl 1 (by decide) (hts _ fl_X5_length_56) (fun _ h9 => h9) rfl dX5_length_15 ?_
    refine lv_iconst (v := (3 : Int32)) hx hb dX5_length_18 (by decide) ?_
    refine lv_icmp_ne (tgt := 34) hx hb dX5_length_19 (by decide) (fun c19 => ?_) (fun c19 => ?_)
    · replace h := im_f c19 h
      refine lv_iconst (v := (3 : Int32)) hx hb dX5_length_34 (by decide) ?_
      refine lv_aload_n hx hb dX5_length_35 rfl (lv_at hl 0 rfl) ?_
      refine va_get (D := (dC, dI)) (ci := 4) (v := .int i_this_symbols) (C := RX5) (T := TX5) (N := 23) hx hb hts hn_X5_length_X5 hown hK hP 0 rfl rfl 8 (by decide) (hts _ fl_X5_length_65) (fun _ h9 => h9) rfl dX5_length_36 ?_
      refine lv_imul hx hb dX5_length_39 ?_
      refine lv_topi (fun v1 ev1 => ?_)
      replace h := im_lt_u h v1 ev1
      refine lv_iconst (v := (4 : Int32)) hx hb dX5_length_40 (by decide) ?_
      refine lv_iadd hx hb dX5_length_41 ?_
      refine lv_topi (fun v2 ev2 => ?_)
      replace h := im_lt_u h v2 ev2
      rw [eQ]
      exact W.iret (v := v2) hx hb hr (fun t ht hW => ⟨_, rfl, Option.some.inj h, ht⟩) (fun _ h9 => by cases h9) dX5_length_42
    · replace h := im_t c19 h
      refine lv_bipush (v := (6 : Int32)) hx hb dX5_length_22 (by decide) ?_
      refine lv_aload_n hx hb dX5_length_24 rfl (lv_at hl 0 rfl) ?_
      refine va_get (D := (dC, dI)) (ci := 4) (v := .int i_this_symbols) (C := RX5) (T := TX5) (N := 23) hx hb hts hn_X5_length_X5 hown hK hP 0 rfl rfl 8 (by decide) (hts _ fl_X5_length_65) (fun _ h9 => h9) rfl dX5_length_25 ?_
      refine lv_imul hx hb dX5_length_28 ?_
      refine lv_topi (fun v3 ev3 => ?_)
      replace h := im_lt_u h v3 ev3
      refine lv_iconst (v := (4 : Int32)) hx hb dX5_length_29 (by decide) ?_
      refine lv_iadd hx hb dX5_length_30 ?_
      refine lv_topi (fun v4 ev4 => ?_)
      replace h := im_lt_u h v4 ev4
      refine lv_goto (tgt := 42) hx hb dX5_length_31 (by decide) ?_
      rw [eQ]
      exact W.iret (v := v4) hx hb hr (fun t ht hW => ⟨_, rfl, Option.some.inj h, ht⟩) (fun _ h9 => by cases h9) dX5_length_42
  · replace h := im_t c5 h
    refine lv_sipush (v := (144 : Int32)) hx hb dX5_length_8 (by decide) ?_
    refine lv_goto (tgt := 42) hx hb dX5_length_11 (by decide) ?_
    rw [eQ]
    exact W.iret (v := (144 : Int32)) hx hb hr (fun t ht hW => ⟨_, rfl, Option.some.inj h, ht⟩) (fun _ h9 => by cases h9) dX5_length_42
def im_X5_frame (x0 : Int32) (i_this_kind : Int32) (i_this_symbols : Int32) : Option (Int32) := if i_this_kind = (2 : Int32) then im_j0 ((some (1 : Int32))) (fun K6 => im_lt (x0 - x0 / (12 : Int32) * (12 : Int32)) (fun v7 => im_lt (x0 / (12 : Int32)) (fun v8 => if v7 = 0 then (K6) else if v8 = (11 : Int32) then (K6) else if v8 = 0 then im_lt (v7 - v7 / (2 : Int32) * (2 : Int32)) (fun v11 => im_lt ((1 : Int32) - v11) (fun v12 => (some v12))) else if v7 = (11 : Int32) then im_lt (v8 - v8 / (2 : Int32) * (2 : Int32)) (fun v9 => im_lt ((1 : Int32) - v9) (fun v10 => (some v10))) else (some (-1 : Int32))))) else im_b1 (im_X5_length i_this_kind i_this_symbols) (fun v1 => if i_this_kind = (3 : Int32) then im_j0 ((some (1 : Int32))) (fun K4 => if x0 = 0 then (K4) else im_lt (v1 - (2 : Int32)) (fun v5 => if x0 < v5 then if x0 = (1 : Int32) then (some (0 : Int32)) else (some (-1 : Int32)) else (K4))) else if x0 = 0 then (some (1 : Int32)) else if x0 = (1 : Int32) then (some (3 : Int32)) else im_lt (v1 - (2 : Int32)) (fun v2 => if x0 = v2 then (some (0 : Int32)) else im_lt (v1 - (1 : Int32)) (fun v3 => if x0 = v3 then (some (1 : Int32)) else (some (-1 : Int32)))))
abbrev rm_X5_frame : Room := { frames := 1, cells := 0, slots := 0, locals := 20 }
theorem hn_X5_frame_X5 : ∀ w ∈ wsX50, w ∈ wsX5_frame := by decide +kernel
theorem fl_X5_frame_56 : Cond.fieldLink RX5 56 "BarCodesModel" "kind" "I" ∈ wsX5_frame := by decide +kernel
set_option maxHeartbeats 4000000 in
set_option maxRecDepth 100000 in
theorem c_X5_frame (l : Launch) (dC : Nat → ClassId) (dI : Nat → Nat → Nat) (cI cJ cZ : ClassId) (a_this a_this_bits a_this_values a_this_has a_this_row a_this_seen a_this_told a_this_word a_this_gone a_this_lines a_this_places a_this_square : Nat) (i_this_thrown i_this_kind i_this_form i_this_fields i_this_checks i_this_symbols i_this_size i_this_many i_this_right i_this_mended i_this_mask i_this_turned : Int32) (x0 : Int32) {r : Int32} (h : im_X5_frame x0 i_this_kind i_this_symbols = some r) : Met l yX5_frame wsX5_frame rm_X5_frame (va_Pc [.ref a_this, .int x0] (fun U => va_P (dC, dI) vwCl [(a_this, .inr (4, [.int i_this_thrown, .int i_this_kind, .int i_this_form, .ref a_this_bits, .ref a_this_values, .ref a_this_has, .int i_this_fields, .int i_this_checks, .int i_this_symbols, .ref a_this_row, .int i_this_size, .ref a_this_seen, .int i_this_many, .ref a_this_told, .int i_this_right, .int i_this_mended, .int i_this_mask, .int i_this_turned, .ref a_this_word, .ref a_this_gone, .ref a_this_lines, .ref a_this_places, .ref a_this_square]))] U.heap ∧ va_K (dC, dI) vwCl [(cI, .int), (cJ, .long), (cZ, .boolean)] U)) (vp_Si (fun r9 => r9 = r)) 0 0 (fun _ => False) := by
  refine Met.ofW (cc := cX5_frame) (maxL := 4) (ret := (some .int)) (by decide) rfl ?_
  intro p e s m args below meth c s₁ B hml hv
  obtain ⟨eargs, hP, hK⟩ := hv
  have hx := B.exec
  have hb := B.bytes
  have hr := B.returns
  have hts := atoms_spec (ws := wsX5_frame) B.pre
  have hown : s.vm.findClass RX5 = some m.cls := findClass_of_methodNamed B.named
  have hlocks := B.notSynchronized
  refine im_Q (fun Q eQ => ?_)
  have hl := lv_entry [.ref a_this, .int x0] (n := 4) (Nat.le_of_ble_eq_true rfl)
  rw [show entryFrame m args 4 = entryFrame m ([.ref a_this, .int x0] : List Value).toArray 4 by rw [eargs], lg_entry_eq]
  generalize (lg_sl ([.ref a_this, .int x0]) ++ List.replicate (4 - (lg_sl ([.ref a_this, .int x0])).length) Slot.unset).toArray = ls at hl ⊢
  have hl : lv_has ls 4 [(0, .ref a_this), (1, .int x0)] := hl
  rw [im_X5_frame] at h
  refine lv_aload_n hx hb dX5_frame_0 rfl (lv_at hl 0 rfl) ?_
  refine va_get (D := (dC, dI)) (ci := 4) (v := .int i_this_kind) (C := RX5) (T := TX5) (N := 23) hx hb hts hn_X5_frame_X5 hown hK hP 0 rfl rfl 1 (by decide) (hts _ fl_X5_frame_56) (fun _ h9 => h9) rfl dX5_frame_1 ?_
  refine lv_iconst (v := (2 : Int32)) hx hb dX5_frame_4 (by decide) ?_
  refine lv_icmp_ne (tgt := 60) hx hb dX5_frame_5 (by decide) (fun c5 => ?_) (fun c5 => ?_)
  · replace h := im_f c5 h
    refine lv_aload_n hx hb dX5_frame_60 rfl (lv_at hl 0 rfl) ?_
    obtain ⟨v1, y61, h⟩ := im_b1_u h
    have hPc := hP.sub (ws' := [(a_this, .inr (4, [.int i_this_thrown, .int i_this_kind, .int i_this_form, .ref a_this_bits, .ref a_this_values, .ref a_this_has, .int i_this_fields, .int i_this_checks, .int i_this_symbols, .ref a_this_row, .int i_this_size, .ref a_this_seen, .int i_this_many, .ref a_this_told, .int i_this_right, .int i_this_mended, .int i_this_mask, .int i_this_turned, .ref a_this_word, .ref a_this_gone, .ref a_this_lines, .ref a_this_places, .ref a_this_square]))]) [0] rfl
    refine vp_callSi (W.runV (As := []) (rest := []) ⟨hx, hb, hml, hown, hts⟩ (c_X5_length l dC dI cI cJ cZ a_this a_this_bits a_this_values a_this_has a_this_row a_this_seen a_this_told a_this_word a_this_gone a_this_lines a_this_places a_this_square i_this_thrown i_this_kind i_this_form i_this_fields i_this_checks i_this_symbols i_this_size i_this_many i_this_right i_this_mended i_this_mask i_this_turned y61) (cwV 0 hts gX5_frame_X5_length rfl rfl rfl (by decide +kernel) ⟨Nat.le_of_ble_eq_true rfl, Nat.le_of_ble_eq_true rfl⟩) ⟨fun a U g mk q => by obtain ⟨q0, qP, qK⟩ := q; exact ⟨q0, qP, va_K.moved (u := U) (U := U.calling g mk a) (Vm.Alike.refl U.vm) qK⟩, va_recv hK hPc (ci := 4) (q0 := 0) rfl rfl, fun U hU hW => ⟨rfl, by rw [hU]; exact hPc, va_K.moved hW.alike hK⟩⟩ rfl rfl hl.1 rfl (lv_room (Nat.le_of_ble_eq_true rfl)) dX5_frame_61 ⟨Nat.zero_le _, Nat.zero_le _⟩) (fun w61 ew61 => ?_)
    have ew61 := ew61.symm
    subst ew61
    refine lv_istore_n (lv' := [(2, .int v1), (0, .ref a_this), (1, .int x0)]) hx hb dX5_frame_64 rfl hl (by decide) rfl (fun ls hl => ?_)
    refine lv_aload_n hx hb dX5_frame_65 rfl (lv_at hl 1 rfl) ?_
    refine va_get (D := (dC, dI)) (ci := 4) (v := .int i_this_kind) (C := RX5) (T := TX5) (N := 23) hx hb hts hn_X5_frame_X5 hown hK hP 0 rfl rfl 1 (by decide) (hts _ fl_X5_frame_56) (fun _ h9 => h9) rfl dX5_frame_66 ?_
    refine lv_iconst (v := (3 : Int32)) hx hb dX5_frame_69 (by decide) ?_
    refine lv_icmp_ne (tgt := 99) hx hb dX5_frame_70 (by decide) (fun c70 => ?_) (fun c70 => ?_)
    · replace h := im_f c70 h
      refine lv_iload_n hx hb dX5_frame_99 rfl (lv_at hl 2 rfl) ?_
      refine lv_if_ne (tgt := 107) hx hb dX5_frame_100 (by decide) (fun c100 => ?_) (fun c100 => ?_)
      · replace h := im_f c100 h
        refine lv_iload_n hx hb dX5_frame_107 rfl (lv_at hl 2 rfl) ?_
        refine lv_iconst (v := (1 : Int32)) hx hb dX5_frame_108 (by decide) ?_
        refine lv_icmp_ne (tgt := 116) hx hb dX5_frame_109 (by decide) (fun c109 => ?_) (fun c109 => ?_)
        · replace h := im_f c109 h
          refine lv_iload_n hx hb dX5_frame_116 rfl (lv_at hl 2 rfl) ?_
          refine lv_iload_n hx hb dX5_frame_117 rfl (lv_at hl 0 rfl) ?_
          refine lv_iconst (v := (2 : Int32)) hx hb dX5_frame_118 (by decide) ?_
          refine lv_isub hx hb dX5_frame_119 ?_
          refine lv_topi (fun v2 ev2 => ?_)
          replace h := im_lt_u h v2 ev2
          refine lv_icmp_ne (tgt := 127) hx hb dX5_frame_120 (by decide) (fun c120 => ?_) (fun c120 => ?_)
          · replace h := im_f c120 h
            refine lv_iload_n hx hb dX5_frame_127 rfl (lv_at hl 2 rfl) ?_
            refine lv_iload_n hx hb dX5_frame_128 rfl (lv_at hl 0 rfl) ?_
            refine lv_iconst (v := (1 : Int32)) hx hb dX5_frame_129 (by decide) ?_
            refine lv_isub hx hb dX5_frame_130 ?_
            refine lv_topi (fun v3 ev3 => ?_)
            replace h := im_lt_u h v3 ev3
            refine lv_icmp_ne (tgt := 138) hx hb dX5_frame_131 (by decide) (fun c131 => ?_) (fun c131 => ?_)
            · replace h := im_f c131 h
              refine lv_iconst (v := (-1 : Int32)) hx hb dX5_frame_138 (by decide) ?_
              rw [eQ]
              exact W.iret (v := (-1 : Int32)) hx hb hr (fun t ht hW => ⟨_, rfl, Option.some.inj h, ht⟩) (fun _ h9 => by cases h9) dX5_frame_139
            · replace h := im_t c131 h
              refine lv_iconst (v := (1 : Int32)) hx hb dX5_frame_134 (by decide) ?_
              refine lv_goto (tgt := 139) hx hb dX5_frame_135 (by decide) ?_
              rw [eQ]
              exact W.iret (v := (1 : Int32)) hx hb hr (fun t ht hW => ⟨_, rfl, Option.some.inj h, ht⟩) (fun _ h9 => by cases h9) dX5_frame_139
          · replace h := im_t c120 h
            refine lv_iconst (v := (0 : Int32)) hx hb dX5_frame_123 (by decide) ?_
            refine lv_goto (tgt := 139) hx hb dX5_frame_124 (by decide) ?_
            rw [eQ]
            exact W.iret (v := (0 : Int32)) hx hb hr (fun t ht hW => ⟨_, rfl, Option.some.inj h, ht⟩) (fun _ h9 => by cases h9) dX5_frame_139
        · replace h := im_t c109 h
          refine lv_iconst (v := (3 : Int32)) hx hb dX5_frame_112 (by decide) ?_
          refine lv_goto (tgt := 139) hx hb dX5_frame_113 (by decide) ?_
          rw [eQ]
          exact W.iret (v := (3 : Int32)) hx hb hr (fun t ht hW => ⟨_, rfl, Option.some.inj h, ht⟩) (fun _ h9 => by cases h9) dX5_frame_139
      · replace h := im_t c100 h
        refine lv_iconst (v := (1 : Int32)) hx hb dX5_frame_103 (by decide) ?_
        refine lv_goto (tgt := 139) hx hb dX5_frame_104 (by decide) ?_
        rw [eQ]
        exact W.iret (v := (1 : Int32)) hx hb hr (fun t ht hW => ⟨_, rfl, Option.some.inj h, ht⟩) (fun _ h9 => by cases h9) dX5_frame_139
    · replace h := im_t c70 h
      refine im_j0_u (P := ∀ (ls : Array Slot), lv_has ls 4 [] → W p l e (headSpec wsX5_frame rm_X5_frame).room s m args below meth c s.heap [] 0 0 Q (F0 m 84 ls [])) h (fun h ls hl => ?_) (fun K4 J4 h => ?_)
      · refine lv_iconst (v := (1 : Int32)) hx hb dX5_frame_84 (by decide) ?_
        refine lv_goto (tgt := 98) hx hb dX5_frame_85 (by decide) ?_
        rw [eQ]
        exact W.iret (v := (1 : Int32)) hx hb hr (fun t ht hW => ⟨_, rfl, Option.some.inj h, ht⟩) (fun _ h9 => by cases h9) dX5_frame_98
      · refine lv_iload_n hx hb dX5_frame_73 rfl (lv_at hl 2 rfl) ?_
        refine lv_if_eq (tgt := 84) hx hb dX5_frame_74 (by decide) (fun c74 => ?_) (fun c74 => ?_)
        · replace h := im_t c74 h
          exact J4  h _ (lv_sub hl [] rfl)
        · replace h := im_f c74 h
          refine lv_iload_n hx hb dX5_frame_77 rfl (lv_at hl 2 rfl) ?_
          refine lv_iload_n hx hb dX5_frame_78 rfl (lv_at hl 0 rfl) ?_
          refine lv_iconst (v := (2 : Int32)) hx hb dX5_frame_79 (by decide) ?_
          refine lv_isub hx hb dX5_frame_80 ?_
          refine lv_topi (fun v5 ev5 => ?_)
          replace h := im_lt_u h v5 ev5
          refine lv_icmp_lt (tgt := 88) hx hb dX5_frame_81 (by decide) (fun c81 => ?_) (fun c81 => ?_)
          · replace h := im_t c81 h
            refine lv_iload_n hx hb dX5_frame_88 rfl (lv_at hl 2 rfl) ?_
            refine lv_iconst (v := (1 : Int32)) hx hb dX5_frame_89 (by decide) ?_
            refine lv_icmp_ne (tgt := 97) hx hb dX5_frame_90 (by decide) (fun c90 => ?_) (fun c90 => ?_)
            · replace h := im_f c90 h
              refine lv_iconst (v := (-1 : Int32)) hx hb dX5_frame_97 (by decide) ?_
              rw [eQ]
              exact W.iret (v := (-1 : Int32)) hx hb hr (fun t ht hW => ⟨_, rfl, Option.some.inj h, ht⟩) (fun _ h9 => by cases h9) dX5_frame_98
            · replace h := im_t c90 h
              refine lv_iconst (v := (0 : Int32)) hx hb dX5_frame_93 (by decide) ?_
              refine lv_goto (tgt := 98) hx hb dX5_frame_94 (by decide) ?_
              rw [eQ]
              exact W.iret (v := (0 : Int32)) hx hb hr (fun t ht hW => ⟨_, rfl, Option.some.inj h, ht⟩) (fun _ h9 => by cases h9) dX5_frame_98
          · replace h := im_f c81 h
            exact J4  h _ (lv_sub hl [] rfl)
  · replace h := im_t c5 h
    refine im_j0_u (P := ∀ (ls : Array Slot), lv_has ls 4 [] → W p l e (headSpec wsX5_frame rm_X5_frame).room s m args below meth c s.heap [] 0 0 Q (F0 m 28 ls [])) h (fun h ls hl => ?_) (fun K6 J6 h => ?_)
    · refine lv_iconst (v := (1 : Int32)) hx hb dX5_frame_28 (by decide) ?_
      refine lv_goto (tgt := 59) hx hb dX5_frame_29 (by decide) ?_
      rw [eQ]
      exact W.iret (v := (1 : Int32)) hx hb hr (fun t ht hW => ⟨_, rfl, Option.some.inj h, ht⟩) (fun _ h9 => by cases h9) dX5_frame_59
    · refine lv_iload_n hx hb dX5_frame_8 rfl (lv_at hl 1 rfl) ?_
      refine lv_bipush (v := (12 : Int32)) hx hb dX5_frame_9 (by decide) ?_
      refine lv_irem hx hb dX5_frame_11 (by decide) ?_
      refine lv_topi (fun v7 ev7 => ?_)
      replace h := im_lt_u h v7 ev7
      refine lv_istore_n (lv' := [(2, .int v7), (0, .ref a_this), (1, .int x0)]) hx hb dX5_frame_12 rfl hl (by decide) rfl (fun ls hl => ?_)
      refine lv_iload_n hx hb dX5_frame_13 rfl (lv_at hl 2 rfl) ?_
      refine lv_bipush (v := (12 : Int32)) hx hb dX5_frame_14 (by decide) ?_
      refine lv_idiv hx hb dX5_frame_16 (by decide) ?_
      refine lv_topi (fun v8 ev8 => ?_)
      replace h := im_lt_u h v8 ev8
      refine lv_istore_n (lv' := [(3, .int v8), (2, .int v7), (0, .ref a_this), (1, .int x0)]) hx hb dX5_frame_17 rfl hl (by decide) rfl (fun ls hl => ?_)
      refine lv_iload_n hx hb dX5_frame_18 rfl (lv_at hl 1 rfl) ?_
      refine lv_if_eq (tgt := 28) hx hb dX5_frame_19 (by decide) (fun c19 => ?_) (fun c19 => ?_)
      · replace h := im_t c19 h
        exact J6  h _ (lv_sub hl [] rfl)
      · replace h := im_f c19 h
        refine lv_iload_n hx hb dX5_frame_22 rfl (lv_at hl 0 rfl) ?_
        refine lv_bipush (v := (11 : Int32)) hx hb dX5_frame_23 (by decide) ?_
        refine lv_icmp_ne (tgt := 32) hx hb dX5_frame_25 (by decide) (fun c25 => ?_) (fun c25 => ?_)
        · replace h := im_f c25 h
          refine lv_iload_n hx hb dX5_frame_32 rfl (lv_at hl 0 rfl) ?_
          refine lv_if_ne (tgt := 44) hx hb dX5_frame_33 (by decide) (fun c33 => ?_) (fun c33 => ?_)
          · replace h := im_f c33 h
            refine lv_iload_n hx hb dX5_frame_44 rfl (lv_at hl 1 rfl) ?_
            refine lv_bipush (v := (11 : Int32)) hx hb dX5_frame_45 (by decide) ?_
            refine lv_icmp_ne (tgt := 58) hx hb dX5_frame_47 (by decide) (fun c47 => ?_) (fun c47 => ?_)
            · replace h := im_f c47 h
              refine lv_iconst (v := (-1 : Int32)) hx hb dX5_frame_58 (by decide) ?_
              rw [eQ]
              exact W.iret (v := (-1 : Int32)) hx hb hr (fun t ht hW => ⟨_, rfl, Option.some.inj h, ht⟩) (fun _ h9 => by cases h9) dX5_frame_59
            · replace h := im_t c47 h
              refine lv_iconst (v := (1 : Int32)) hx hb dX5_frame_50 (by decide) ?_
              refine lv_iload_n hx hb dX5_frame_51 rfl (lv_at hl 0 rfl) ?_
              refine lv_iconst (v := (2 : Int32)) hx hb dX5_frame_52 (by decide) ?_
              refine lv_irem hx hb dX5_frame_53 (by decide) ?_
              refine lv_topi (fun v9 ev9 => ?_)
              replace h := im_lt_u h v9 ev9
              refine lv_isub hx hb dX5_frame_54 ?_
              refine lv_topi (fun v10 ev10 => ?_)
              replace h := im_lt_u h v10 ev10
              refine lv_goto (tgt := 59) hx hb dX5_frame_55 (by decide) ?_
              rw [eQ]
              exact W.iret (v := v10) hx hb hr (fun t ht hW => ⟨_, rfl, Option.some.inj h, ht⟩) (fun _ h9 => by cases h9) dX5_frame_59
          · replace h := im_t c33 h
            refine lv_iconst (v := (1 : Int32)) hx hb dX5_frame_36 (by decide) ?_
            refine lv_iload_n hx hb dX5_frame_37 rfl (lv_at hl 1 rfl) ?_
            refine lv_iconst (v := (2 : Int32)) hx hb dX5_frame_38 (by decide) ?_
            refine lv_irem hx hb dX5_frame_39 (by decide) ?_
            refine lv_topi (fun v11 ev11 => ?_)
            replace h := im_lt_u h v11 ev11
            refine lv_isub hx hb dX5_frame_40 ?_
            refine lv_topi (fun v12 ev12 => ?_)
            replace h := im_lt_u h v12 ev12
            refine lv_goto (tgt := 59) hx hb dX5_frame_41 (by decide) ?_
            rw [eQ]
            exact W.iret (v := v12) hx hb hr (fun t ht hW => ⟨_, rfl, Option.some.inj h, ht⟩) (fun _ h9 => by cases h9) dX5_frame_59
        · replace h := im_t c25 h
          exact J6  h _ (lv_sub hl [] rfl)
def im_X5_isMasked (x0 : Int32) (x1 : Int32) (x2 : Int32) : Option (Int32) := if x0 = 0 then im_lt (x1 + x2) (fun v5 => im_lt (v5 - v5 / (2 : Int32) * (2 : Int32)) (fun v6 => if v6 = 0 then (some (1 : Int32)) else (some (0 : Int32)))) else if x0 = (1 : Int32) then im_lt (x2 - x2 / (2 : Int32) * (2 : Int32)) (fun v4 => if v4 = 0 then (some (1 : Int32)) else (some (0 : Int32))) else if x0 = (2 : Int32) then im_lt (x1 - x1 / (3 : Int32) * (3 : Int32)) (fun v3 => if v3 = 0 then (some (1 : Int32)) else (some (0 : Int32))) else im_lt (x1 * x2) (fun v1 => im_lt (v1 - v1 / (3 : Int32) * (3 : Int32)) (fun v2 => if v2 = 0 then (some (1 : Int32)) else (some (0 : Int32))))
abbrev rm_X5_isMasked : Room := { frames := 0, cells := 0, slots := 0, locals := 0 }
set_option maxHeartbeats 4000000 in
set_option maxRecDepth 100000 in
theorem c_X5_isMasked (l : Launch) (x0 : Int32) (x1 : Int32) (x2 : Int32) {r : Int32} (h : im_X5_isMasked x0 x1 x2 = some r) : Met l yX5_isMasked wsX5_isMasked rm_X5_isMasked (va_Pc [.int x0, .int x1, .int x2] (fun U => True)) (vp_Si (fun r9 => r9 = r)) 0 0 (fun _ => False) := by
  refine Met.ofW (cc := cX5_isMasked) (maxL := 3) (ret := (some .boolean)) (by decide) rfl ?_
  intro p e s m args below meth c s₁ B hml hv
  obtain ⟨eargs, -⟩ := hv
  have hx := B.exec
  have hb := B.bytes
  have hr := B.returns
  have hts := atoms_spec (ws := wsX5_isMasked) B.pre
  have hown : s.vm.findClass RX5 = some m.cls := findClass_of_methodNamed B.named
  have hlocks := B.notSynchronized
  refine im_Q (fun Q eQ => ?_)
  have hl := lv_entry [.int x0, .int x1, .int x2] (n := 3) (Nat.le_of_ble_eq_true rfl)
  rw [show entryFrame m args 3 = entryFrame m ([.int x0, .int x1, .int x2] : List Value).toArray 3 by rw [eargs], lg_entry_eq]
  generalize (lg_sl ([.int x0, .int x1, .int x2]) ++ List.replicate (3 - (lg_sl ([.int x0, .int x1, .int x2])).length) Slot.unset).toArray = ls at hl ⊢
  have hl : lv_has ls 3 [(0, .int x0), (1, .int x1), (2, .int x2)] := hl
  rw [im_X5_isMasked] at h
  refine lv_iload_n hx hb dX5_isMasked_0 rfl (lv_at hl 0 rfl) ?_
  refine lv_if_ne (tgt := 20) hx hb dX5_isMasked_1 (by decide) (fun c1 => ?_) (fun c1 => ?_)
  · replace h := im_f c1 h
    refine lv_iload_n hx hb dX5_isMasked_20 rfl (lv_at hl 0 rfl) ?_
    refine lv_iconst (v := (1 : Int32)) hx hb dX5_isMasked_21 (by decide) ?_
    refine lv_icmp_ne (tgt := 39) hx hb dX5_isMasked_22 (by decide) (fun c22 => ?_) (fun c22 => ?_)
    · replace h := im_f c22 h
      refine lv_iload_n hx hb dX5_isMasked_39 rfl (lv_at hl 0 rfl) ?_
      refine lv_iconst (v := (2 : Int32)) hx hb dX5_isMasked_40 (by decide) ?_
      refine lv_icmp_ne (tgt := 58) hx hb dX5_isMasked_41 (by decide) (fun c41 => ?_) (fun c41 => ?_)
      · replace h := im_f c41 h
        refine lv_iload_n hx hb dX5_isMasked_58 rfl (lv_at hl 1 rfl) ?_
        refine lv_iload_n hx hb dX5_isMasked_59 rfl (lv_at hl 2 rfl) ?_
        refine lv_imul hx hb dX5_isMasked_60 ?_
        refine lv_topi (fun v1 ev1 => ?_)
        replace h := im_lt_u h v1 ev1
        refine lv_iconst (v := (3 : Int32)) hx hb dX5_isMasked_61 (by decide) ?_
        refine lv_irem hx hb dX5_isMasked_62 (by decide) ?_
        refine lv_topi (fun v2 ev2 => ?_)
        replace h := im_lt_u h v2 ev2
        refine lv_if_ne (tgt := 70) hx hb dX5_isMasked_63 (by decide) (fun c63 => ?_) (fun c63 => ?_)
        · replace h := im_f c63 h
          refine lv_iconst (v := (0 : Int32)) hx hb dX5_isMasked_70 (by decide) ?_
          rw [eQ]
          exact W.zret (ty := .boolean) (v := (0 : Int32)) hx hb hr rfl (fun t ht hW => ⟨_, rfl, Option.some.inj h, ht⟩) (fun _ h9 => by cases h9) dX5_isMasked_71
        · replace h := im_t c63 h
          refine lv_iconst (v := (1 : Int32)) hx hb dX5_isMasked_66 (by decide) ?_
          refine lv_goto (tgt := 71) hx hb dX5_isMasked_67 (by decide) ?_
          rw [eQ]
          exact W.zret (ty := .boolean) (v := (1 : Int32)) hx hb hr rfl (fun t ht hW => ⟨_, rfl, Option.some.inj h, ht⟩) (fun _ h9 => by cases h9) dX5_isMasked_71
      · replace h := im_t c41 h
        refine lv_iload_n hx hb dX5_isMasked_44 rfl (lv_at hl 1 rfl) ?_
        refine lv_iconst (v := (3 : Int32)) hx hb dX5_isMasked_45 (by decide) ?_
        refine lv_irem hx hb dX5_isMasked_46 (by decide) ?_
        refine lv_topi (fun v3 ev3 => ?_)
        replace h := im_lt_u h v3 ev3
        refine lv_if_ne (tgt := 54) hx hb dX5_isMasked_47 (by decide) (fun c47 => ?_) (fun c47 => ?_)
        · replace h := im_f c47 h
          refine lv_iconst (v := (0 : Int32)) hx hb dX5_isMasked_54 (by decide) ?_
          refine lv_goto (tgt := 71) hx hb dX5_isMasked_55 (by decide) ?_
          rw [eQ]
          exact W.zret (ty := .boolean) (v := (0 : Int32)) hx hb hr rfl (fun t ht hW => ⟨_, rfl, Option.some.inj h, ht⟩) (fun _ h9 => by cases h9) dX5_isMasked_71
        · replace h := im_t c47 h
          refine lv_iconst (v := (1 : Int32)) hx hb dX5_isMasked_50 (by decide) ?_
          refine lv_goto (tgt := 71) hx hb dX5_isMasked_51 (by decide) ?_
          rw [eQ]
          exact W.zret (ty := .boolean) (v := (1 : Int32)) hx hb hr rfl (fun t ht hW => ⟨_, rfl, Option.some.inj h, ht⟩) (fun _ h9 => by cases h9) dX5_isMasked_71
    · replace h := im_t c22 h
      refine lv_iload_n hx hb dX5_isMasked_25 rfl (lv_at hl 2 rfl) ?_
      refine lv_iconst (v := (2 : Int32)) hx hb dX5_isMasked_26 (by decide) ?_
      refine lv_irem hx hb dX5_isMasked_27 (by decide) ?_
      refine lv_topi (fun v4 ev4 => ?_)
      replace h := im_lt_u h v4 ev4
      refine lv_if_ne (tgt := 35) hx hb dX5_isMasked_28 (by decide) (fun c28 => ?_) (fun c28 => ?_)
      · replace h := im_f c28 h
        refine lv_iconst (v := (0 : Int32)) hx hb dX5_isMasked_35 (by decide) ?_
        refine lv_goto (tgt := 71) hx hb dX5_isMasked_36 (by decide) ?_
        rw [eQ]
        exact W.zret (ty := .boolean) (v := (0 : Int32)) hx hb hr rfl (fun t ht hW => ⟨_, rfl, Option.some.inj h, ht⟩) (fun _ h9 => by cases h9) dX5_isMasked_71
      · replace h := im_t c28 h
        refine lv_iconst (v := (1 : Int32)) hx hb dX5_isMasked_31 (by decide) ?_
        refine lv_goto (tgt := 71) hx hb dX5_isMasked_32 (by decide) ?_
        rw [eQ]
        exact W.zret (ty := .boolean) (v := (1 : Int32)) hx hb hr rfl (fun t ht hW => ⟨_, rfl, Option.some.inj h, ht⟩) (fun _ h9 => by cases h9) dX5_isMasked_71
  · replace h := im_t c1 h
    refine lv_iload_n hx hb dX5_isMasked_4 rfl (lv_at hl 1 rfl) ?_
    refine lv_iload_n hx hb dX5_isMasked_5 rfl (lv_at hl 2 rfl) ?_
    refine lv_iadd hx hb dX5_isMasked_6 ?_
    refine lv_topi (fun v5 ev5 => ?_)
    replace h := im_lt_u h v5 ev5
    refine lv_iconst (v := (2 : Int32)) hx hb dX5_isMasked_7 (by decide) ?_
    refine lv_irem hx hb dX5_isMasked_8 (by decide) ?_
    refine lv_topi (fun v6 ev6 => ?_)
    replace h := im_lt_u h v6 ev6
    refine lv_if_ne (tgt := 16) hx hb dX5_isMasked_9 (by decide) (fun c9 => ?_) (fun c9 => ?_)
    · replace h := im_f c9 h
      refine lv_iconst (v := (0 : Int32)) hx hb dX5_isMasked_16 (by decide) ?_
      refine lv_goto (tgt := 71) hx hb dX5_isMasked_17 (by decide) ?_
      rw [eQ]
      exact W.zret (ty := .boolean) (v := (0 : Int32)) hx hb hr rfl (fun t ht hW => ⟨_, rfl, Option.some.inj h, ht⟩) (fun _ h9 => by cases h9) dX5_isMasked_71
    · replace h := im_t c9 h
      refine lv_iconst (v := (1 : Int32)) hx hb dX5_isMasked_12 (by decide) ?_
      refine lv_goto (tgt := 71) hx hb dX5_isMasked_13 (by decide) ?_
      rw [eQ]
      exact W.zret (ty := .boolean) (v := (1 : Int32)) hx hb hr rfl (fun t ht hW => ⟨_, rfl, Option.some.inj h, ht⟩) (fun _ h9 => by cases h9) dX5_isMasked_71
def im_X5_maskBit (x0 : Int32) (x1 : Int32) : Option (Int32) := im_j1 (fun (v1 : Int32) => im_lt ((3 : Int32) - x1) (fun v3 => im_lt (v1 >>> (v3 &&& 31)) (fun v4 => im_lt (v4 &&& (1 : Int32)) (fun v5 => (some v5))))) (fun K2 => if x0 = 0 then (K2 (0 : Int32)) else if x0 = (1 : Int32) then (K2 (7 : Int32)) else if x0 = (2 : Int32) then (K2 (11 : Int32)) else (K2 (12 : Int32)))
abbrev rm_X5_maskBit : Room := { frames := 0, cells := 0, slots := 0, locals := 0 }
set_option maxHeartbeats 4000000 in
set_option maxRecDepth 100000 in
theorem c_X5_maskBit (l : Launch) (x0 : Int32) (x1 : Int32) {r : Int32} (h : im_X5_maskBit x0 x1 = some r) : Met l yX5_maskBit wsX5_maskBit rm_X5_maskBit (va_Pc [.int x0, .int x1] (fun U => True)) (vp_Si (fun r9 => r9 = r)) 0 0 (fun _ => False) := by
  refine Met.ofW (cc := cX5_maskBit) (maxL := 3) (ret := (some .int)) (by decide) rfl ?_
  intro p e s m args below meth c s₁ B hml hv
  obtain ⟨eargs, -⟩ := hv
  have hx := B.exec
  have hb := B.bytes
  have hr := B.returns
  have hts := atoms_spec (ws := wsX5_maskBit) B.pre
  have hown : s.vm.findClass RX5 = some m.cls := findClass_of_methodNamed B.named
  have hlocks := B.notSynchronized
  refine im_Q (fun Q eQ => ?_)
  have hl := lv_entry [.int x0, .int x1] (n := 3) (Nat.le_of_ble_eq_true rfl)
  rw [show entryFrame m args 3 = entryFrame m ([.int x0, .int x1] : List Value).toArray 3 by rw [eargs], lg_entry_eq]
  generalize (lg_sl ([.int x0, .int x1]) ++ List.replicate (3 - (lg_sl ([.int x0, .int x1])).length) Slot.unset).toArray = ls at hl ⊢
  have hl : lv_has ls 3 [(0, .int x0), (1, .int x1)] := hl
  rw [im_X5_maskBit] at h
  refine im_j1_u (P := fun v1 => ∀ (ls : Array Slot), lv_has ls 3 [(1, .int x1)] → W p l e (headSpec wsX5_maskBit rm_X5_maskBit).room s m args below meth c s.heap [] 0 0 Q (F0 m 30 ls [.int v1])) h (fun v1 h ls hl => ?_) (fun K2 J2 h => ?_)
  · refine lv_istore_n (lv' := [(2, .int v1), (1, .int x1)]) hx hb dX5_maskBit_30 rfl hl (by decide) rfl (fun ls hl => ?_)
    refine lv_iload_n hx hb dX5_maskBit_31 rfl (lv_at hl 0 rfl) ?_
    refine lv_iconst (v := (3 : Int32)) hx hb dX5_maskBit_32 (by decide) ?_
    refine lv_iload_n hx hb dX5_maskBit_33 rfl (lv_at hl 1 rfl) ?_
    refine lv_isub hx hb dX5_maskBit_34 ?_
    refine lv_topi (fun v3 ev3 => ?_)
    replace h := im_lt_u h v3 ev3
    refine lv_ishr hx hb dX5_maskBit_35 ?_
    refine lv_topi (fun v4 ev4 => ?_)
    replace h := im_lt_u h v4 ev4
    refine lv_iconst (v := (1 : Int32)) hx hb dX5_maskBit_36 (by decide) ?_
    refine lv_iand hx hb dX5_maskBit_37 ?_
    refine lv_topi (fun v5 ev5 => ?_)
    replace h := im_lt_u h v5 ev5
    rw [eQ]
    exact W.iret (v := v5) hx hb hr (fun t ht hW => ⟨_, rfl, Option.some.inj h, ht⟩) (fun _ h9 => by cases h9) dX5_maskBit_38
  · refine lv_iload_n hx hb dX5_maskBit_0 rfl (lv_at hl 0 rfl) ?_
    refine lv_if_ne (tgt := 8) hx hb dX5_maskBit_1 (by decide) (fun c1 => ?_) (fun c1 => ?_)
    · replace h := im_f c1 h
      refine lv_iload_n hx hb dX5_maskBit_8 rfl (lv_at hl 0 rfl) ?_
      refine lv_iconst (v := (1 : Int32)) hx hb dX5_maskBit_9 (by decide) ?_
      refine lv_icmp_ne (tgt := 18) hx hb dX5_maskBit_10 (by decide) (fun c10 => ?_) (fun c10 => ?_)
      · replace h := im_f c10 h
        refine lv_iload_n hx hb dX5_maskBit_18 rfl (lv_at hl 0 rfl) ?_
        refine lv_iconst (v := (2 : Int32)) hx hb dX5_maskBit_19 (by decide) ?_
        refine lv_icmp_ne (tgt := 28) hx hb dX5_maskBit_20 (by decide) (fun c20 => ?_) (fun c20 => ?_)
        · replace h := im_f c20 h
          refine lv_bipush (v := (12 : Int32)) hx hb dX5_maskBit_28 (by decide) ?_
          exact J2 (12 : Int32) h _ (lv_sub hl [1] rfl)
        · replace h := im_t c20 h
          refine lv_bipush (v := (11 : Int32)) hx hb dX5_maskBit_23 (by decide) ?_
          refine lv_goto (tgt := 30) hx hb dX5_maskBit_25 (by decide) ?_
          exact J2 (11 : Int32) h _ (lv_sub hl [1] rfl)
      · replace h := im_t c10 h
        refine lv_bipush (v := (7 : Int32)) hx hb dX5_maskBit_13 (by decide) ?_
        refine lv_goto (tgt := 30) hx hb dX5_maskBit_15 (by decide) ?_
        exact J2 (7 : Int32) h _ (lv_sub hl [1] rfl)
    · replace h := im_t c1 h
      refine lv_iconst (v := (0 : Int32)) hx hb dX5_maskBit_4 (by decide) ?_
      refine lv_goto (tgt := 30) hx hb dX5_maskBit_5 (by decide) ?_
      exact J2 (0 : Int32) h _ (lv_sub hl [1] rfl)
def im_X5_cell (x0 : Int32) : Option (Int32) := im_lt (x0 / (10 : Int32)) (fun v1 => im_lt (v1 + (1 : Int32)) (fun v2 => im_lt ((12 : Int32) * v2) (fun v3 => im_lt (x0 - x0 / (10 : Int32) * (10 : Int32)) (fun v4 => im_lt (v3 + v4) (fun v5 => im_lt (v5 + (1 : Int32)) (fun v6 => (some v6)))))))
abbrev rm_X5_cell : Room := { frames := 0, cells := 0, slots := 0, locals := 0 }
set_option maxHeartbeats 4000000 in
set_option maxRecDepth 100000 in
theorem c_X5_cell (l : Launch) (x0 : Int32) {r : Int32} (h : im_X5_cell x0 = some r) : Met l yX5_cell wsX5_cell rm_X5_cell (va_Pc [.int x0] (fun U => True)) (vp_Si (fun r9 => r9 = r)) 0 0 (fun _ => False) := by
  refine Met.ofW (cc := cX5_cell) (maxL := 1) (ret := (some .int)) (by decide) rfl ?_
  intro p e s m args below meth c s₁ B hml hv
  obtain ⟨eargs, -⟩ := hv
  have hx := B.exec
  have hb := B.bytes
  have hr := B.returns
  have hts := atoms_spec (ws := wsX5_cell) B.pre
  have hown : s.vm.findClass RX5 = some m.cls := findClass_of_methodNamed B.named
  have hlocks := B.notSynchronized
  refine im_Q (fun Q eQ => ?_)
  have hl := lv_entry [.int x0] (n := 1) (Nat.le_of_ble_eq_true rfl)
  rw [show entryFrame m args 1 = entryFrame m ([.int x0] : List Value).toArray 1 by rw [eargs], lg_entry_eq]
  generalize (lg_sl ([.int x0]) ++ List.replicate (1 - (lg_sl ([.int x0])).length) Slot.unset).toArray = ls at hl ⊢
  have hl : lv_has ls 1 [(0, .int x0)] := hl
  rw [im_X5_cell] at h
  refine lv_bipush (v := (12 : Int32)) hx hb dX5_cell_0 (by decide) ?_
  refine lv_iload_n hx hb dX5_cell_2 rfl (lv_at hl 0 rfl) ?_
  refine lv_bipush (v := (10 : Int32)) hx hb dX5_cell_3 (by decide) ?_
  refine lv_idiv hx hb dX5_cell_5 (by decide) ?_
  refine lv_topi (fun v1 ev1 => ?_)
  replace h := im_lt_u h v1 ev1
  refine lv_iconst (v := (1 : Int32)) hx hb dX5_cell_6 (by decide) ?_
  refine lv_iadd hx hb dX5_cell_7 ?_
  refine lv_topi (fun v2 ev2 => ?_)
  replace h := im_lt_u h v2 ev2
  refine lv_imul hx hb dX5_cell_8 ?_
  refine lv_topi (fun v3 ev3 => ?_)
  replace h := im_lt_u h v3 ev3
  refine lv_iload_n hx hb dX5_cell_9 rfl (lv_at hl 0 rfl) ?_
  refine lv_bipush (v := (10 : Int32)) hx hb dX5_cell_10 (by decide) ?_
  refine lv_irem hx hb dX5_cell_12 (by decide) ?_
  refine lv_topi (fun v4 ev4 => ?_)
  replace h := im_lt_u h v4 ev4
  refine lv_iadd hx hb dX5_cell_13 ?_
  refine lv_topi (fun v5 ev5 => ?_)
  replace h := im_lt_u h v5 ev5
  refine lv_iconst (v := (1 : Int32)) hx hb dX5_cell_14 (by decide) ?_
  refine lv_iadd hx hb dX5_cell_15 ?_
  refine lv_topi (fun v6 ev6 => ?_)
  replace h := im_lt_u h v6 ev6
  rw [eQ]
  exact W.iret (v := v6) hx hb hr (fun t ht hW => ⟨_, rfl, Option.some.inj h, ht⟩) (fun _ h9 => by cases h9) dX5_cell_16
def im_X5_wordBit (x0 : Int32) (n_this_word : Nat) (f_this_word : Nat → Int32) : Option (Int32) := im_lt (x0 / (6 : Int32)) (fun v1 => im_ld n_this_word f_this_word v1 (fun v2 => im_lt (x0 - x0 / (6 : Int32) * (6 : Int32)) (fun v3 => im_lt ((5 : Int32) - v3) (fun v4 => im_lt (v2 >>> (v4 &&& 31)) (fun v5 => im_lt (v5 &&& (1 : Int32)) (fun v6 => (some v6)))))))
abbrev rm_X5_wordBit : Room := { frames := 0, cells := 0, slots := 0, locals := 0 }
theorem hn_X5_wordBit_X5 : ∀ w ∈ wsX50, w ∈ wsX5_wordBit := by decide +kernel
theorem fl_X5_wordBit_37 : Cond.fieldLink RX5 37 "BarCodesModel" "word" "[I" ∈ wsX5_wordBit := by decide +kernel
set_option maxHeartbeats 4000000 in
set_option maxRecDepth 100000 in
theorem c_X5_wordBit (l : Launch) (dC : Nat → ClassId) (dI : Nat → Nat → Nat) (cI cJ cZ : ClassId) (a_this a_this_bits a_this_values a_this_has a_this_row a_this_seen a_this_told a_this_word a_this_gone a_this_lines a_this_places a_this_square : Nat) (i_this_thrown i_this_kind i_this_form i_this_fields i_this_checks i_this_symbols i_this_size i_this_many i_this_right i_this_mended i_this_mask i_this_turned : Int32) (n_this_word : Nat) (f_this_word : Nat → Int32) (x0 : Int32) {r : Int32} (h : im_X5_wordBit x0 n_this_word f_this_word = some r) : Met l yX5_wordBit wsX5_wordBit rm_X5_wordBit (va_Pc [.ref a_this, .int x0] (fun U => va_P (dC, dI) vwCl [(a_this, .inr (4, [.int i_this_thrown, .int i_this_kind, .int i_this_form, .ref a_this_bits, .ref a_this_values, .ref a_this_has, .int i_this_fields, .int i_this_checks, .int i_this_symbols, .ref a_this_row, .int i_this_size, .ref a_this_seen, .int i_this_many, .ref a_this_told, .int i_this_right, .int i_this_mended, .int i_this_mask, .int i_this_turned, .ref a_this_word, .ref a_this_gone, .ref a_this_lines, .ref a_this_places, .ref a_this_square])), (a_this_word, .inl (cI, n_this_word, .inl f_this_word))] U.heap ∧ va_K (dC, dI) vwCl [(cI, .int), (cJ, .long), (cZ, .boolean)] U)) (vp_Si (fun r9 => r9 = r)) 0 0 (fun _ => False) := by
  refine Met.ofW (cc := cX5_wordBit) (maxL := 2) (ret := (some .int)) (by decide) rfl ?_
  intro p e s m args below meth c s₁ B hml hv
  obtain ⟨eargs, hP, hK⟩ := hv
  have hx := B.exec
  have hb := B.bytes
  have hr := B.returns
  have hts := atoms_spec (ws := wsX5_wordBit) B.pre
  have hown : s.vm.findClass RX5 = some m.cls := findClass_of_methodNamed B.named
  have hlocks := B.notSynchronized
  refine im_Q (fun Q eQ => ?_)
  have hl := lv_entry [.ref a_this, .int x0] (n := 2) (Nat.le_of_ble_eq_true rfl)
  rw [show entryFrame m args 2 = entryFrame m ([.ref a_this, .int x0] : List Value).toArray 2 by rw [eargs], lg_entry_eq]
  generalize (lg_sl ([.ref a_this, .int x0]) ++ List.replicate (2 - (lg_sl ([.ref a_this, .int x0])).length) Slot.unset).toArray = ls at hl ⊢
  have hl : lv_has ls 2 [(0, .ref a_this), (1, .int x0)] := hl
  rw [im_X5_wordBit] at h
  refine lv_aload_n hx hb dX5_wordBit_0 rfl (lv_at hl 0 rfl) ?_
  refine va_get (D := (dC, dI)) (ci := 4) (v := .ref a_this_word) (C := RX5) (T := TX5) (N := 23) hx hb hts hn_X5_wordBit_X5 hown hK hP 0 rfl rfl 18 (by decide) (hts _ fl_X5_wordBit_37) (fun _ h9 => h9) rfl dX5_wordBit_1 ?_
  refine lv_iload_n hx hb dX5_wordBit_4 rfl (lv_at hl 1 rfl) ?_
  refine lv_bipush (v := (6 : Int32)) hx hb dX5_wordBit_5 (by decide) ?_
  refine lv_idiv hx hb dX5_wordBit_7 (by decide) ?_
  refine lv_topi (fun v1 ev1 => ?_)
  replace h := im_lt_u h v1 ev1
  obtain ⟨q8, h⟩ := im_ld_u h
  refine va_iald hx hb hK hP 1 0 rfl rfl q8 dX5_wordBit_8 ?_
  refine lv_topi (fun v2 ev2 => ?_)
  replace h := h v2 ev2
  refine lv_iconst (v := (5 : Int32)) hx hb dX5_wordBit_9 (by decide) ?_
  refine lv_iload_n hx hb dX5_wordBit_10 rfl (lv_at hl 1 rfl) ?_
  refine lv_bipush (v := (6 : Int32)) hx hb dX5_wordBit_11 (by decide) ?_
  refine lv_irem hx hb dX5_wordBit_13 (by decide) ?_
  refine lv_topi (fun v3 ev3 => ?_)
  replace h := im_lt_u h v3 ev3
  refine lv_isub hx hb dX5_wordBit_14 ?_
  refine lv_topi (fun v4 ev4 => ?_)
  replace h := im_lt_u h v4 ev4
  refine lv_ishr hx hb dX5_wordBit_15 ?_
  refine lv_topi (fun v5 ev5 => ?_)
  replace h := im_lt_u h v5 ev5
  refine lv_iconst (v := (1 : Int32)) hx hb dX5_wordBit_16 (by decide) ?_
  refine lv_iand hx hb dX5_wordBit_17 ?_
  refine lv_topi (fun v6 ev6 => ?_)
  replace h := im_lt_u h v6 ev6
  rw [eQ]
  exact W.iret (v := v6) hx hb hr (fun t ht hW => ⟨_, rfl, Option.some.inj h, ht⟩) (fun _ h9 => by cases h9) dX5_wordBit_18
def im_X5_paint_L28 (n_this_square : Nat) (x0 : Int32) (n_this_word : Nat) (f_this_word : Nat → Int32) : Nat → Int32 → (Nat → Int32) → Option ((Nat → Int32))
  | 0, _, _ => none
  | n + 1, v3, f4 => if (100 : Int32) ≤ v3 then (some f4) else im_j2 (fun (v6 : Int32) (v7 : Int32) => im_st n_this_square f4 v7 v6 (fun f9 => im_lt (v3 + (1 : Int32)) (fun v10 => (im_X5_paint_L28 n_this_square x0 n_this_word f_this_word n v10 f9)))) (fun K8 => im_b1 (im_X5_cell v3) (fun v11 => if v3 ≤ (95 : Int32) then im_lt (v11 - v11 / (12 : Int32) * (12 : Int32)) (fun v12 => im_lt (v11 / (12 : Int32)) (fun v13 => im_b1 (im_X5_isMasked x0 v12 v13) (fun v14 => if v14 = 0 then im_b1 (im_X5_wordBit v3 n_this_word f_this_word) (fun v15 => (K8 v15 v11)) else im_b1 (im_X5_wordBit v3 n_this_word f_this_word) (fun v16 => im_lt ((1 : Int32) - v16) (fun v17 => (K8 v17 v11)))))) else im_lt (v3 - (96 : Int32)) (fun v18 => im_b1 (im_X5_maskBit x0 v18) (fun v19 => (K8 v19 v11)))))
def im_X5_paint_L2 (K2 : (Nat → Int32) → Option ((Nat → Int32))) (i_this_kind : Int32) (i_this_symbols : Int32) (n_this_square : Nat) : Nat → Int32 → (Nat → Int32) → Option ((Nat → Int32))
  | 0, _, _ => none
  | n + 1, v20, f21 => if (144 : Int32) ≤ v20 then (K2 f21) else im_b1 (im_X5_frame v20 i_this_kind i_this_symbols) (fun v23 => im_st n_this_square f21 v20 v23 (fun f24 => im_lt (v20 + (1 : Int32)) (fun v25 => (im_X5_paint_L2 K2 i_this_kind i_this_symbols n_this_square n v25 f24))))
def im_X5_paint (x0 : Int32) (i_this_kind : Int32) (i_this_symbols : Int32) (n_this_square : Nat) (n_this_word : Nat) (f_this_square : Nat → Int32) (f_this_word : Nat → Int32) : Option ((Nat → Int32)) := im_j1 (fun (f1 : Nat → Int32) => (im_X5_paint_L28 n_this_square x0 n_this_word f_this_word 5000 (0 : Int32) f1)) (fun K2 => (im_X5_paint_L2 K2 i_this_kind i_this_symbols n_this_square 5000 (0 : Int32) f_this_square))
abbrev rm_X5_paint : Room := { frames := 2, cells := 0, slots := 0, locals := 43 }
theorem hn_X5_paint_X5 : ∀ w ∈ wsX50, w ∈ wsX5_paint := by decide +kernel
theorem fl_X5_paint_49 : Cond.fieldLink RX5 49 "BarCodesModel" "square" "[I" ∈ wsX5_paint := by decide +kernel
set_option maxHeartbeats 4000000 in
set_option maxRecDepth 100000 in
theorem c_X5_paint (l : Launch) (dC : Nat → ClassId) (dI : Nat → Nat → Nat) (cI cJ cZ : ClassId) (sz : Nat) (a_this a_this_bits a_this_values a_this_has a_this_row a_this_seen a_this_told a_this_word a_this_gone a_this_lines a_this_places a_this_square : Nat) (i_this_thrown i_this_kind i_this_form i_this_fields i_this_checks i_this_symbols i_this_size i_this_many i_this_right i_this_mended i_this_mask i_this_turned : Int32) (n_this_square n_this_word : Nat) (f_this_square : Nat → Int32) (f_this_word : Nat → Int32) (x0 : Int32) {r : (Nat → Int32)} (h : im_X5_paint x0 i_this_kind i_this_symbols n_this_square n_this_word f_this_square f_this_word = some r) : Met l yX5_paint wsX5_paint rm_X5_paint (va_Pc [.ref a_this, .int x0] (fun U => U.heap.size = sz ∧ va_P (dC, dI) vwCl [(a_this, .inr (4, [.int i_this_thrown, .int i_this_kind, .int i_this_form, .ref a_this_bits, .ref a_this_values, .ref a_this_has, .int i_this_fields, .int i_this_checks, .int i_this_symbols, .ref a_this_row, .int i_this_size, .ref a_this_seen, .int i_this_many, .ref a_this_told, .int i_this_right, .int i_this_mended, .int i_this_mask, .int i_this_turned, .ref a_this_word, .ref a_this_gone, .ref a_this_lines, .ref a_this_places, .ref a_this_square])), (a_this_square, .inl (cI, n_this_square, .inl f_this_square)), (a_this_word, .inl (cI, n_this_word, .inl f_this_word))] U.heap ∧ va_K (dC, dI) vwCl [(cI, .int), (cJ, .long), (cZ, .boolean)] U ∧ va_D (fun _ => True) [(a_this, .inr (4, [.int i_this_thrown, .int i_this_kind, .int i_this_form, .ref a_this_bits, .ref a_this_values, .ref a_this_has, .int i_this_fields, .int i_this_checks, .int i_this_symbols, .ref a_this_row, .int i_this_size, .ref a_this_seen, .int i_this_many, .ref a_this_told, .int i_this_right, .int i_this_mended, .int i_this_mask, .int i_this_turned, .ref a_this_word, .ref a_this_gone, .ref a_this_lines, .ref a_this_places, .ref a_this_square])), (a_this_square, .inl (cI, n_this_square, .inl f_this_square)), (a_this_word, .inl (cI, n_this_word, .inl f_this_word))])) (va_Qv (S := (Nat → Int32)) (fun u9 => u9 = r) (fun u9 t9 => va_P (dC, dI) vwCl [(a_this, .inr (4, [.int i_this_thrown, .int i_this_kind, .int i_this_form, .ref a_this_bits, .ref a_this_values, .ref a_this_has, .int i_this_fields, .int i_this_checks, .int i_this_symbols, .ref a_this_row, .int i_this_size, .ref a_this_seen, .int i_this_many, .ref a_this_told, .int i_this_right, .int i_this_mended, .int i_this_mask, .int i_this_turned, .ref a_this_word, .ref a_this_gone, .ref a_this_lines, .ref a_this_places, .ref a_this_square])), (a_this_square, .inl (cI, n_this_square, .inl (u9))), (a_this_word, .inl (cI, n_this_word, .inl f_this_word))] t9.heap ∧ va_K (dC, dI) vwCl [(cI, .int), (cJ, .long), (cZ, .boolean)] t9 ∧ va_D (va_A [(a_this, .inr (4, [.int i_this_thrown, .int i_this_kind, .int i_this_form, .ref a_this_bits, .ref a_this_values, .ref a_this_has, .int i_this_fields, .int i_this_checks, .int i_this_symbols, .ref a_this_row, .int i_this_size, .ref a_this_seen, .int i_this_many, .ref a_this_told, .int i_this_right, .int i_this_mended, .int i_this_mask, .int i_this_turned, .ref a_this_word, .ref a_this_gone, .ref a_this_lines, .ref a_this_places, .ref a_this_square])), (a_this_square, .inl (cI, n_this_square, .inl f_this_square)), (a_this_word, .inl (cI, n_this_word, .inl f_this_word))] sz) [(a_this, .inr (4, [.int i_this_thrown, .int i_this_kind, .int i_this_form, .ref a_this_bits, .ref a_this_values, .ref a_this_has, .int i_this_fields, .int i_this_checks, .int i_this_symbols, .ref a_this_row, .int i_this_size, .ref a_this_seen, .int i_this_many, .ref a_this_told, .int i_this_right, .int i_this_mended, .int i_this_mask, .int i_this_turned, .ref a_this_word, .ref a_this_gone, .ref a_this_lines, .ref a_this_places, .ref a_this_square])), (a_this_square, .inl (cI, n_this_square, .inl (u9))), (a_this_word, .inl (cI, n_this_word, .inl f_this_word))]) (va_A [(a_this, .inr (4, [.int i_this_thrown, .int i_this_kind, .int i_this_form, .ref a_this_bits, .ref a_this_values, .ref a_this_has, .int i_this_fields, .int i_this_checks, .int i_this_symbols, .ref a_this_row, .int i_this_size, .ref a_this_seen, .int i_this_many, .ref a_this_told, .int i_this_right, .int i_this_mended, .int i_this_mask, .int i_this_turned, .ref a_this_word, .ref a_this_gone, .ref a_this_lines, .ref a_this_places, .ref a_this_square])), (a_this_square, .inl (cI, n_this_square, .inl f_this_square)), (a_this_word, .inl (cI, n_this_word, .inl f_this_word))] sz)) 0 0 (va_A [(a_this, .inr (4, [.int i_this_thrown, .int i_this_kind, .int i_this_form, .ref a_this_bits, .ref a_this_values, .ref a_this_has, .int i_this_fields, .int i_this_checks, .int i_this_symbols, .ref a_this_row, .int i_this_size, .ref a_this_seen, .int i_this_many, .ref a_this_told, .int i_this_right, .int i_this_mended, .int i_this_mask, .int i_this_turned, .ref a_this_word, .ref a_this_gone, .ref a_this_lines, .ref a_this_places, .ref a_this_square])), (a_this_square, .inl (cI, n_this_square, .inl f_this_square)), (a_this_word, .inl (cI, n_this_word, .inl f_this_word))] sz) := by
  refine Met.ofW (cc := cX5_paint) (maxL := 4) (ret := none) (by decide) rfl ?_
  intro p e s m args below meth c s₁ B hml hv
  obtain ⟨eargs, hsz, hP, hK, hD0⟩ := hv
  have hx := B.exec
  have hb := B.bytes
  have hr := B.returns
  have hts := atoms_spec (ws := wsX5_paint) B.pre
  have hown : s.vm.findClass RX5 = some m.cls := findClass_of_methodNamed B.named
  have hlocks := B.notSynchronized
  refine im_Q (fun Q eQ => ?_)
  subst hsz
  have hD := hD0.self (sz := s.heap.size)
  generalize hAe : va_A [(a_this, .inr (4, [.int i_this_thrown, .int i_this_kind, .int i_this_form, .ref a_this_bits, .ref a_this_values, .ref a_this_has, .int i_this_fields, .int i_this_checks, .int i_this_symbols, .ref a_this_row, .int i_this_size, .ref a_this_seen, .int i_this_many, .ref a_this_told, .int i_this_right, .int i_this_mended, .int i_this_mask, .int i_this_turned, .ref a_this_word, .ref a_this_gone, .ref a_this_lines, .ref a_this_places, .ref a_this_square])), (a_this_square, .inl (cI, n_this_square, .inl f_this_square)), (a_this_word, .inl (cI, n_this_word, .inl f_this_word))] s.heap.size = A at hD eQ
  have hA : ∀ q : Nat, s.heap.size ≤ q → A q := fun q h => by rw [← hAe]; exact Or.inr h
  have hS : va_S A s.heap s.heap [] := va_S.rf
  have hl := lv_entry [.ref a_this, .int x0] (n := 4) (Nat.le_of_ble_eq_true rfl)
  rw [show entryFrame m args 4 = entryFrame m ([.ref a_this, .int x0] : List Value).toArray 4 by rw [eargs], lg_entry_eq]
  generalize (lg_sl ([.ref a_this, .int x0]) ++ List.replicate (4 - (lg_sl ([.ref a_this, .int x0])).length) Slot.unset).toArray = ls at hl ⊢
  have hl : lv_has ls 4 [(0, .ref a_this), (1, .int x0)] := hl
  rw [im_X5_paint] at h
  refine lv_iconst (v := (0 : Int32)) hx hb dX5_paint_0 (by decide) ?_
  refine lv_istore_n (lv' := [(2, .int (0 : Int32)), (0, .ref a_this), (1, .int x0)]) hx hb dX5_paint_1 rfl hl (by decide) rfl (fun ls hl => ?_)
  refine im_j1_u (P := fun f1 => ∀ (H : Heap) (locs : List Loc) (ls : Array Slot), va_P (dC, dI) vwCl [(a_this, .inr (4, [.int i_this_thrown, .int i_this_kind, .int i_this_form, .ref a_this_bits, .ref a_this_values, .ref a_this_has, .int i_this_fields, .int i_this_checks, .int i_this_symbols, .ref a_this_row, .int i_this_size, .ref a_this_seen, .int i_this_many, .ref a_this_told, .int i_this_right, .int i_this_mended, .int i_this_mask, .int i_this_turned, .ref a_this_word, .ref a_this_gone, .ref a_this_lines, .ref a_this_places, .ref a_this_square])), (a_this_square, .inl (cI, n_this_square, .inl f1)), (a_this_word, .inl (cI, n_this_word, .inl f_this_word))] H → va_D A [(a_this, .inr (4, [.int i_this_thrown, .int i_this_kind, .int i_this_form, .ref a_this_bits, .ref a_this_values, .ref a_this_has, .int i_this_fields, .int i_this_checks, .int i_this_symbols, .ref a_this_row, .int i_this_size, .ref a_this_seen, .int i_this_many, .ref a_this_told, .int i_this_right, .int i_this_mended, .int i_this_mask, .int i_this_turned, .ref a_this_word, .ref a_this_gone, .ref a_this_lines, .ref a_this_places, .ref a_this_square])), (a_this_square, .inl (cI, n_this_square, .inl f1)), (a_this_word, .inl (cI, n_this_word, .inl f_this_word))] → va_S A s.heap H locs → lv_has ls 4 [(0, .ref a_this), (1, .int x0)] → W p l e (headSpec wsX5_paint rm_X5_paint).room s m args below meth c H locs 0 0 Q (F0 m 26 ls [])) h (fun f1 h H locs ls hP hD hS hl => ?_) (fun K2 J2 h => ?_)
  · refine lv_iconst (v := (0 : Int32)) hx hb dX5_paint_26 (by decide) ?_
    refine lv_istore_n (lv' := [(2, .int (0 : Int32)), (0, .ref a_this), (1, .int x0)]) hx hb dX5_paint_27 rfl hl (by decide) rfl (fun ls hl => ?_)
    have Lp5 : ∀ (n : Nat) (v3 : Int32) (f4 : Nat → Int32), im_X5_paint_L28 n_this_square x0 n_this_word f_this_word n v3 f4 = some r → ∀ (H : Heap) (locs : List Loc) (ls : Array Slot), va_P (dC, dI) vwCl [(a_this, .inr (4, [.int i_this_thrown, .int i_this_kind, .int i_this_form, .ref a_this_bits, .ref a_this_values, .ref a_this_has, .int i_this_fields, .int i_this_checks, .int i_this_symbols, .ref a_this_row, .int i_this_size, .ref a_this_seen, .int i_this_many, .ref a_this_told, .int i_this_right, .int i_this_mended, .int i_this_mask, .int i_this_turned, .ref a_this_word, .ref a_this_gone, .ref a_this_lines, .ref a_this_places, .ref a_this_square])), (a_this_square, .inl (cI, n_this_square, .inl f4)), (a_this_word, .inl (cI, n_this_word, .inl f_this_word))] H → va_D A [(a_this, .inr (4, [.int i_this_thrown, .int i_this_kind, .int i_this_form, .ref a_this_bits, .ref a_this_values, .ref a_this_has, .int i_this_fields, .int i_this_checks, .int i_this_symbols, .ref a_this_row, .int i_this_size, .ref a_this_seen, .int i_this_many, .ref a_this_told, .int i_this_right, .int i_this_mended, .int i_this_mask, .int i_this_turned, .ref a_this_word, .ref a_this_gone, .ref a_this_lines, .ref a_this_places, .ref a_this_square])), (a_this_square, .inl (cI, n_this_square, .inl f4)), (a_this_word, .inl (cI, n_this_word, .inl f_this_word))] → va_S A s.heap H locs → lv_has ls 4 [(0, .ref a_this), (1, .int x0), (2, .int v3)] → W p l e (headSpec wsX5_paint rm_X5_paint).room s m args below meth c H locs 0 0 Q (F0 m 28 ls []) := by
      intro n
      induction n with
      | zero => intro v3 f4 h; rw [im_X5_paint_L28] at h; cases h
      | succ n ih =>
        intro v3 f4 h H locs ls hP hD hS hl
        rw [im_X5_paint_L28] at h
        refine lv_iload_n hx hb dX5_paint_28 rfl (lv_at hl 2 rfl) ?_
        refine lv_bipush (v := (100 : Int32)) hx hb dX5_paint_29 (by decide) ?_
        refine lv_icmp_ge (tgt := 98) hx hb dX5_paint_31 (by decide) (fun c31 => ?_) (fun c31 => ?_)
        · replace h := im_t c31 h
          rw [eQ]
          exact W.vret hx hb hr (fun t ht hW => ⟨⟨f4, rfl, Option.some.inj h, by rw [ht]; exact hP, va_K.moved hW.alike hK, hD⟩, hS.F ht⟩) hS.2.2 dX5_paint_98
        · replace h := im_f c31 h
          refine im_j2_u (P := fun v6 v7 => ∀ (H : Heap) (locs : List Loc) (ls : Array Slot), va_P (dC, dI) vwCl [(a_this, .inr (4, [.int i_this_thrown, .int i_this_kind, .int i_this_form, .ref a_this_bits, .ref a_this_values, .ref a_this_has, .int i_this_fields, .int i_this_checks, .int i_this_symbols, .ref a_this_row, .int i_this_size, .ref a_this_seen, .int i_this_many, .ref a_this_told, .int i_this_right, .int i_this_mended, .int i_this_mask, .int i_this_turned, .ref a_this_word, .ref a_this_gone, .ref a_this_lines, .ref a_this_places, .ref a_this_square])), (a_this_square, .inl (cI, n_this_square, .inl f4)), (a_this_word, .inl (cI, n_this_word, .inl f_this_word))] H → va_D A [(a_this, .inr (4, [.int i_this_thrown, .int i_this_kind, .int i_this_form, .ref a_this_bits, .ref a_this_values, .ref a_this_has, .int i_this_fields, .int i_this_checks, .int i_this_symbols, .ref a_this_row, .int i_this_size, .ref a_this_seen, .int i_this_many, .ref a_this_told, .int i_this_right, .int i_this_mended, .int i_this_mask, .int i_this_turned, .ref a_this_word, .ref a_this_gone, .ref a_this_lines, .ref a_this_places, .ref a_this_square])), (a_this_square, .inl (cI, n_this_square, .inl f4)), (a_this_word, .inl (cI, n_this_word, .inl f_this_word))] → va_S A s.heap H locs → lv_has ls 4 [(0, .ref a_this), (1, .int x0), (2, .int v3)] → W p l e (headSpec wsX5_paint rm_X5_paint).room s m args below meth c H locs 0 0 Q (F0 m 91 ls [.int v6, .int v7, .ref a_this_square])) h (fun v6 v7 h H locs ls hP hD hS hl => ?_) (fun K8 J8 h => ?_)
          · obtain ⟨q91, h⟩ := im_st_u h
            refine va_iast hx hb hK hP hD hS 1 0 rfl rfl q91 dX5_paint_91 (fun H locs hP hD hS => ?_)
            obtain ⟨f9, ef9⟩ : ∃ g : Nat → Int32, g = upd f4 v7.toNatClampNeg v6 := ⟨_, rfl⟩
            replace h := h f9 ef9
            rw [← ef9] at hP hD
            have hP : va_P (dC, dI) vwCl [(a_this, .inr (4, [.int i_this_thrown, .int i_this_kind, .int i_this_form, .ref a_this_bits, .ref a_this_values, .ref a_this_has, .int i_this_fields, .int i_this_checks, .int i_this_symbols, .ref a_this_row, .int i_this_size, .ref a_this_seen, .int i_this_many, .ref a_this_told, .int i_this_right, .int i_this_mended, .int i_this_mask, .int i_this_turned, .ref a_this_word, .ref a_this_gone, .ref a_this_lines, .ref a_this_places, .ref a_this_square])), (a_this_square, .inl (cI, n_this_square, .inl f9)), (a_this_word, .inl (cI, n_this_word, .inl f_this_word))] H := hP
            have hD : va_D A [(a_this, .inr (4, [.int i_this_thrown, .int i_this_kind, .int i_this_form, .ref a_this_bits, .ref a_this_values, .ref a_this_has, .int i_this_fields, .int i_this_checks, .int i_this_symbols, .ref a_this_row, .int i_this_size, .ref a_this_seen, .int i_this_many, .ref a_this_told, .int i_this_right, .int i_this_mended, .int i_this_mask, .int i_this_turned, .ref a_this_word, .ref a_this_gone, .ref a_this_lines, .ref a_this_places, .ref a_this_square])), (a_this_square, .inl (cI, n_this_square, .inl f9)), (a_this_word, .inl (cI, n_this_word, .inl f_this_word))] := hD
            obtain ⟨v10, ev10⟩ : ∃ y : Int32, y = (v3 + (1 : Int32)) := ⟨_, rfl⟩
            replace h := im_lt_u h v10 ev10
            refine lv_iinc (v := v10) (lv' := [(2, .int v10), (0, .ref a_this), (1, .int x0)]) hx hb dX5_paint_92 hl (k := 2) rfl (by rw [ev10]; rfl) (by decide) rfl (fun ls hl => ?_)
            refine lv_goto (tgt := 28) hx hb dX5_paint_95 (by decide) ?_
            exact ih v10 f9 h _ _ _ hP hD hS (lv_sub hl [1, 2, 0] rfl)
          · refine lv_iload_n hx hb dX5_paint_34 rfl (lv_at hl 2 rfl) ?_
            obtain ⟨v11, y35, h⟩ := im_b1_u h
            refine vp_callSi (W.runS (As := [.int v3]) (rest := []) ⟨hx, hb, hml, hown, hts⟩ (c_X5_cell l v3 y35) (va_cwS 1 hts gX5_paint_X5_cell rfl rfl rfl (by decide +kernel) ⟨Nat.le_of_ble_eq_true rfl, Nat.le_of_ble_eq_true rfl⟩) ⟨fun _ _ _ _ q => q, fun U hU hW => ⟨rfl, trivial⟩⟩ rfl rfl hl.1 rfl (lv_room (Nat.le_of_ble_eq_true rfl)) dX5_paint_35 ⟨Nat.zero_le _, Nat.zero_le _⟩) (fun w35 ew35 => ?_)
            have ew35 := ew35.symm
            subst ew35
            refine lv_istore_n (lv' := [(3, .int v11), (0, .ref a_this), (1, .int x0), (2, .int v3)]) hx hb dX5_paint_38 rfl hl (by decide) rfl (fun ls hl => ?_)
            refine lv_aload_n hx hb dX5_paint_39 rfl (lv_at hl 1 rfl) ?_
            refine va_get (D := (dC, dI)) (ci := 4) (v := .ref a_this_square) (C := RX5) (T := TX5) (N := 23) hx hb hts hn_X5_paint_X5 hown hK hP 0 rfl rfl 22 (by decide) (hts _ fl_X5_paint_49) (fun _ h9 => h9) rfl dX5_paint_40 ?_
            refine lv_iload_n hx hb dX5_paint_43 rfl (lv_at hl 0 rfl) ?_
            refine lv_iload_n hx hb dX5_paint_44 rfl (lv_at hl 3 rfl) ?_
            refine lv_bipush (v := (95 : Int32)) hx hb dX5_paint_45 (by decide) ?_
            refine lv_icmp_le (tgt := 61) hx hb dX5_paint_47 (by decide) (fun c47 => ?_) (fun c47 => ?_)
            · replace h := im_t c47 h
              refine lv_iload_n hx hb dX5_paint_61 rfl (lv_at hl 2 rfl) ?_
              refine lv_iload_n hx hb dX5_paint_62 rfl (lv_at hl 0 rfl) ?_
              refine lv_bipush (v := (12 : Int32)) hx hb dX5_paint_63 (by decide) ?_
              refine lv_irem hx hb dX5_paint_65 (by decide) ?_
              refine lv_topi (fun v12 ev12 => ?_)
              replace h := im_lt_u h v12 ev12
              refine lv_iload_n hx hb dX5_paint_66 rfl (lv_at hl 0 rfl) ?_
              refine lv_bipush (v := (12 : Int32)) hx hb dX5_paint_67 (by decide) ?_
              refine lv_idiv hx hb dX5_paint_69 (by decide) ?_
              refine lv_topi (fun v13 ev13 => ?_)
              replace h := im_lt_u h v13 ev13
              obtain ⟨v14, y70, h⟩ := im_b1_u h
              refine vp_callSi (W.runS (As := [.int x0, .int v12, .int v13]) (rest := [.int v11, .ref a_this_square]) ⟨hx, hb, hml, hown, hts⟩ (c_X5_isMasked l x0 v12 v13 y70) (va_cwS 3 hts gX5_paint_X5_isMasked rfl rfl rfl (by decide +kernel) ⟨Nat.le_of_ble_eq_true rfl, Nat.le_of_ble_eq_true rfl⟩) ⟨fun _ _ _ _ q => q, fun U hU hW => ⟨rfl, trivial⟩⟩ rfl rfl hl.1 rfl (lv_room (Nat.le_of_ble_eq_true rfl)) dX5_paint_70 ⟨Nat.zero_le _, Nat.zero_le _⟩) (fun w70 ew70 => ?_)
              have ew70 := ew70.symm
              subst ew70
              refine lv_if_eq (tgt := 86) hx hb dX5_paint_73 (by decide) (fun c73 => ?_) (fun c73 => ?_)
              · replace h := im_t c73 h
                refine lv_aload_n hx hb dX5_paint_86 rfl (lv_at hl 1 rfl) ?_
                refine lv_iload_n hx hb dX5_paint_87 rfl (lv_at hl 3 rfl) ?_
                obtain ⟨v15, y88, h⟩ := im_b1_u h
                have hPc := hP.sub (ws' := [(a_this, .inr (4, [.int i_this_thrown, .int i_this_kind, .int i_this_form, .ref a_this_bits, .ref a_this_values, .ref a_this_has, .int i_this_fields, .int i_this_checks, .int i_this_symbols, .ref a_this_row, .int i_this_size, .ref a_this_seen, .int i_this_many, .ref a_this_told, .int i_this_right, .int i_this_mended, .int i_this_mask, .int i_this_turned, .ref a_this_word, .ref a_this_gone, .ref a_this_lines, .ref a_this_places, .ref a_this_square])), (a_this_word, .inl (cI, n_this_word, .inl f_this_word))]) [0, 2] rfl
                refine vp_callSi (W.runV (As := [.int v3]) (rest := [.int v11, .ref a_this_square]) ⟨hx, hb, hml, hown, hts⟩ (c_X5_wordBit l dC dI cI cJ cZ a_this a_this_bits a_this_values a_this_has a_this_row a_this_seen a_this_told a_this_word a_this_gone a_this_lines a_this_places a_this_square i_this_thrown i_this_kind i_this_form i_this_fields i_this_checks i_this_symbols i_this_size i_this_many i_this_right i_this_mended i_this_mask i_this_turned n_this_word f_this_word v3 y88) (cwV 1 hts gX5_paint_X5_wordBit rfl rfl rfl (by decide +kernel) ⟨Nat.le_of_ble_eq_true rfl, Nat.le_of_ble_eq_true rfl⟩) ⟨fun a U g mk q => by obtain ⟨q0, qP, qK⟩ := q; exact ⟨q0, qP, va_K.moved (u := U) (U := U.calling g mk a) (Vm.Alike.refl U.vm) qK⟩, va_recv hK hPc (ci := 4) (q0 := 0) rfl rfl, fun U hU hW => ⟨rfl, by rw [hU]; exact hPc, va_K.moved hW.alike hK⟩⟩ rfl rfl hl.1 rfl (lv_room (Nat.le_of_ble_eq_true rfl)) dX5_paint_88 ⟨Nat.zero_le _, Nat.zero_le _⟩) (fun w88 ew88 => ?_)
                have ew88 := ew88.symm
                subst ew88
                exact J8 v15 v11 h _ _ _ hP hD hS (lv_sub hl [1, 2, 3] rfl)
              · replace h := im_f c73 h
                refine lv_iconst (v := (1 : Int32)) hx hb dX5_paint_76 (by decide) ?_
                refine lv_aload_n hx hb dX5_paint_77 rfl (lv_at hl 1 rfl) ?_
                refine lv_iload_n hx hb dX5_paint_78 rfl (lv_at hl 3 rfl) ?_
                obtain ⟨v16, y79, h⟩ := im_b1_u h
                have hPc := hP.sub (ws' := [(a_this, .inr (4, [.int i_this_thrown, .int i_this_kind, .int i_this_form, .ref a_this_bits, .ref a_this_values, .ref a_this_has, .int i_this_fields, .int i_this_checks, .int i_this_symbols, .ref a_this_row, .int i_this_size, .ref a_this_seen, .int i_this_many, .ref a_this_told, .int i_this_right, .int i_this_mended, .int i_this_mask, .int i_this_turned, .ref a_this_word, .ref a_this_gone, .ref a_this_lines, .ref a_this_places, .ref a_this_square])), (a_this_word, .inl (cI, n_this_word, .inl f_this_word))]) [0, 2] rfl
                refine vp_callSi (W.runV (As := [.int v3]) (rest := [.int (1 : Int32), .int v11, .ref a_this_square]) ⟨hx, hb, hml, hown, hts⟩ (c_X5_wordBit l dC dI cI cJ cZ a_this a_this_bits a_this_values a_this_has a_this_row a_this_seen a_this_told a_this_word a_this_gone a_this_lines a_this_places a_this_square i_this_thrown i_this_kind i_this_form i_this_fields i_this_checks i_this_symbols i_this_size i_this_many i_this_right i_this_mended i_this_mask i_this_turned n_this_word f_this_word v3 y79) (cwV 1 hts gX5_paint_X5_wordBit rfl rfl rfl (by decide +kernel) ⟨Nat.le_of_ble_eq_true rfl, Nat.le_of_ble_eq_true rfl⟩) ⟨fun a U g mk q => by obtain ⟨q0, qP, qK⟩ := q; exact ⟨q0, qP, va_K.moved (u := U) (U := U.calling g mk a) (Vm.Alike.refl U.vm) qK⟩, va_recv hK hPc (ci := 4) (q0 := 0) rfl rfl, fun U hU hW => ⟨rfl, by rw [hU]; exact hPc, va_K.moved hW.alike hK⟩⟩ rfl rfl hl.1 rfl (lv_room (Nat.le_of_ble_eq_true rfl)) dX5_paint_79 ⟨Nat.zero_le _, Nat.zero_le _⟩) (fun w79 ew79 => ?_)
                have ew79 := ew79.symm
                subst ew79
                refine lv_isub hx hb dX5_paint_82 ?_
                refine lv_topi (fun v17 ev17 => ?_)
                replace h := im_lt_u h v17 ev17
                refine lv_goto (tgt := 91) hx hb dX5_paint_83 (by decide) ?_
                exact J8 v17 v11 h _ _ _ hP hD hS (lv_sub hl [1, 2, 3] rfl)
            · replace h := im_f c47 h
              refine lv_iload_n hx hb dX5_paint_50 rfl (lv_at hl 2 rfl) ?_
              refine lv_iload_n hx hb dX5_paint_51 rfl (lv_at hl 3 rfl) ?_
              refine lv_bipush (v := (96 : Int32)) hx hb dX5_paint_52 (by decide) ?_
              refine lv_isub hx hb dX5_paint_54 ?_
              refine lv_topi (fun v18 ev18 => ?_)
              replace h := im_lt_u h v18 ev18
              obtain ⟨v19, y55, h⟩ := im_b1_u h
              refine vp_callSi (W.runS (As := [.int x0, .int v18]) (rest := [.int v11, .ref a_this_square]) ⟨hx, hb, hml, hown, hts⟩ (c_X5_maskBit l x0 v18 y55) (va_cwS 2 hts gX5_paint_X5_maskBit rfl rfl rfl (by decide +kernel) ⟨Nat.le_of_ble_eq_true rfl, Nat.le_of_ble_eq_true rfl⟩) ⟨fun _ _ _ _ q => q, fun U hU hW => ⟨rfl, trivial⟩⟩ rfl rfl hl.1 rfl (lv_room (Nat.le_of_ble_eq_true rfl)) dX5_paint_55 ⟨Nat.zero_le _, Nat.zero_le _⟩) (fun w55 ew55 => ?_)
              have ew55 := ew55.symm
              subst ew55
              refine lv_goto (tgt := 91) hx hb dX5_paint_58 (by decide) ?_
              exact J8 v19 v11 h _ _ _ hP hD hS (lv_sub hl [1, 2, 3] rfl)
    exact Lp5 5000 (0 : Int32) f1 h _ _ _ hP hD hS (lv_sub hl [1, 2, 0] rfl)
  · have Lp22 : ∀ (n : Nat) (v20 : Int32) (f21 : Nat → Int32), im_X5_paint_L2 K2 i_this_kind i_this_symbols n_this_square n v20 f21 = some r → ∀ (H : Heap) (locs : List Loc) (ls : Array Slot), va_P (dC, dI) vwCl [(a_this, .inr (4, [.int i_this_thrown, .int i_this_kind, .int i_this_form, .ref a_this_bits, .ref a_this_values, .ref a_this_has, .int i_this_fields, .int i_this_checks, .int i_this_symbols, .ref a_this_row, .int i_this_size, .ref a_this_seen, .int i_this_many, .ref a_this_told, .int i_this_right, .int i_this_mended, .int i_this_mask, .int i_this_turned, .ref a_this_word, .ref a_this_gone, .ref a_this_lines, .ref a_this_places, .ref a_this_square])), (a_this_square, .inl (cI, n_this_square, .inl f21)), (a_this_word, .inl (cI, n_this_word, .inl f_this_word))] H → va_D A [(a_this, .inr (4, [.int i_this_thrown, .int i_this_kind, .int i_this_form, .ref a_this_bits, .ref a_this_values, .ref a_this_has, .int i_this_fields, .int i_this_checks, .int i_this_symbols, .ref a_this_row, .int i_this_size, .ref a_this_seen, .int i_this_many, .ref a_this_told, .int i_this_right, .int i_this_mended, .int i_this_mask, .int i_this_turned, .ref a_this_word, .ref a_this_gone, .ref a_this_lines, .ref a_this_places, .ref a_this_square])), (a_this_square, .inl (cI, n_this_square, .inl f21)), (a_this_word, .inl (cI, n_this_word, .inl f_this_word))] → va_S A s.heap H locs → lv_has ls 4 [(0, .ref a_this), (1, .int x0), (2, .int v20)] → W p l e (headSpec wsX5_paint rm_X5_paint).room s m args below meth c H locs 0 0 Q (F0 m 2 ls []) := by
      intro n
      induction n with
      | zero => intro v20 f21 h; rw [im_X5_paint_L2] at h; cases h
      | succ n ih =>
        intro v20 f21 h H locs ls hP hD hS hl
        rw [im_X5_paint_L2] at h
        refine lv_iload_n hx hb dX5_paint_2 rfl (lv_at hl 2 rfl) ?_
        refine lv_sipush (v := (144 : Int32)) hx hb dX5_paint_3 (by decide) ?_
        refine lv_icmp_ge (tgt := 26) hx hb dX5_paint_6 (by decide) (fun c6 => ?_) (fun c6 => ?_)
        · replace h := im_t c6 h
          exact J2 f21 h _ _ _ hP hD hS (lv_sub hl [0, 1] rfl)
        · replace h := im_f c6 h
          refine lv_aload_n hx hb dX5_paint_9 rfl (lv_at hl 0 rfl) ?_
          refine va_get (D := (dC, dI)) (ci := 4) (v := .ref a_this_square) (C := RX5) (T := TX5) (N := 23) hx hb hts hn_X5_paint_X5 hown hK hP 0 rfl rfl 22 (by decide) (hts _ fl_X5_paint_49) (fun _ h9 => h9) rfl dX5_paint_10 ?_
          refine lv_iload_n hx hb dX5_paint_13 rfl (lv_at hl 2 rfl) ?_
          refine lv_aload_n hx hb dX5_paint_14 rfl (lv_at hl 0 rfl) ?_
          refine lv_iload_n hx hb dX5_paint_15 rfl (lv_at hl 2 rfl) ?_
          obtain ⟨v23, y16, h⟩ := im_b1_u h
          have hPc := hP.sub (ws' := [(a_this, .inr (4, [.int i_this_thrown, .int i_this_kind, .int i_this_form, .ref a_this_bits, .ref a_this_values, .ref a_this_has, .int i_this_fields, .int i_this_checks, .int i_this_symbols, .ref a_this_row, .int i_this_size, .ref a_this_seen, .int i_this_many, .ref a_this_told, .int i_this_right, .int i_this_mended, .int i_this_mask, .int i_this_turned, .ref a_this_word, .ref a_this_gone, .ref a_this_lines, .ref a_this_places, .ref a_this_square]))]) [0] rfl
          refine vp_callSi (W.runV (As := [.int v20]) (rest := [.int v20, .ref a_this_square]) ⟨hx, hb, hml, hown, hts⟩ (c_X5_frame l dC dI cI cJ cZ a_this a_this_bits a_this_values a_this_has a_this_row a_this_seen a_this_told a_this_word a_this_gone a_this_lines a_this_places a_this_square i_this_thrown i_this_kind i_this_form i_this_fields i_this_checks i_this_symbols i_this_size i_this_many i_this_right i_this_mended i_this_mask i_this_turned v20 y16) (cwV 1 hts gX5_paint_X5_frame rfl rfl rfl (by decide +kernel) ⟨Nat.le_of_ble_eq_true rfl, Nat.le_of_ble_eq_true rfl⟩) ⟨fun a U g mk q => by obtain ⟨q0, qP, qK⟩ := q; exact ⟨q0, qP, va_K.moved (u := U) (U := U.calling g mk a) (Vm.Alike.refl U.vm) qK⟩, va_recv hK hPc (ci := 4) (q0 := 0) rfl rfl, fun U hU hW => ⟨rfl, by rw [hU]; exact hPc, va_K.moved hW.alike hK⟩⟩ rfl rfl hl.1 rfl (lv_room (Nat.le_of_ble_eq_true rfl)) dX5_paint_16 ⟨Nat.zero_le _, Nat.zero_le _⟩) (fun w16 ew16 => ?_)
          have ew16 := ew16.symm
          subst ew16
          obtain ⟨q19, h⟩ := im_st_u h
          refine va_iast hx hb hK hP hD hS 1 0 rfl rfl q19 dX5_paint_19 (fun H locs hP hD hS => ?_)
          obtain ⟨f24, ef24⟩ : ∃ g : Nat → Int32, g = upd f21 v20.toNatClampNeg v23 := ⟨_, rfl⟩
          replace h := h f24 ef24
          rw [← ef24] at hP hD
          have hP : va_P (dC, dI) vwCl [(a_this, .inr (4, [.int i_this_thrown, .int i_this_kind, .int i_this_form, .ref a_this_bits, .ref a_this_values, .ref a_this_has, .int i_this_fields, .int i_this_checks, .int i_this_symbols, .ref a_this_row, .int i_this_size, .ref a_this_seen, .int i_this_many, .ref a_this_told, .int i_this_right, .int i_this_mended, .int i_this_mask, .int i_this_turned, .ref a_this_word, .ref a_this_gone, .ref a_this_lines, .ref a_this_places, .ref a_this_square])), (a_this_square, .inl (cI, n_this_square, .inl f24)), (a_this_word, .inl (cI, n_this_word, .inl f_this_word))] H := hP
          have hD : va_D A [(a_this, .inr (4, [.int i_this_thrown, .int i_this_kind, .int i_this_form, .ref a_this_bits, .ref a_this_values, .ref a_this_has, .int i_this_fields, .int i_this_checks, .int i_this_symbols, .ref a_this_row, .int i_this_size, .ref a_this_seen, .int i_this_many, .ref a_this_told, .int i_this_right, .int i_this_mended, .int i_this_mask, .int i_this_turned, .ref a_this_word, .ref a_this_gone, .ref a_this_lines, .ref a_this_places, .ref a_this_square])), (a_this_square, .inl (cI, n_this_square, .inl f24)), (a_this_word, .inl (cI, n_this_word, .inl f_this_word))] := hD
          obtain ⟨v25, ev25⟩ : ∃ y : Int32, y = (v20 + (1 : Int32)) := ⟨_, rfl⟩
          replace h := im_lt_u h v25 ev25
          refine lv_iinc (v := v25) (lv' := [(2, .int v25), (0, .ref a_this), (1, .int x0)]) hx hb dX5_paint_20 hl (k := 2) rfl (by rw [ev25]; rfl) (by decide) rfl (fun ls hl => ?_)
          refine lv_goto (tgt := 2) hx hb dX5_paint_23 (by decide) ?_
          exact ih v25 f24 h _ _ _ hP hD hS (lv_sub hl [1, 2, 0] rfl)
    exact Lp22 5000 (0 : Int32) f_this_square h _ _ _ hP hD hS (lv_sub hl [1, 2, 0] rfl)
def im_X5_runs_L16 (K5 : Int32 → Option (Int32)) (x1 : Int32) (x0 : Int32) (n_this_square : Nat) (f_this_square : Nat → Int32) (v2 : Int32) : Nat → Int32 → Option (Int32)
  | 0, _ => none
  | n + 1, v12 => if (12 : Int32) ≤ v12 then (K5 v12) else im_lt (v12 * x1) (fun v14 => im_lt (x0 + v14) (fun v15 => im_ld n_this_square f_this_square v15 (fun v16 => im_lt (v2 * x1) (fun v17 => im_lt (x0 + v17) (fun v18 => im_ld n_this_square f_this_square v18 (fun v19 => if v16 = v19 then im_lt (v12 + (1 : Int32)) (fun v20 => (im_X5_runs_L16 K5 x1 x0 n_this_square f_this_square v2 n v20)) else (K5 v12)))))))
def im_X5_runs_L5 (x1 : Int32) (x0 : Int32) (n_this_square : Nat) (f_this_square : Nat → Int32) : Nat → Int32 → Int32 → Option (Int32)
  | 0, _, _ => none
  | n + 1, v1, v2 => if (12 : Int32) ≤ v2 then (some v1) else im_j1 (fun (v4 : Int32) => im_j1 (fun (v6 : Int32) => (im_X5_runs_L5 x1 x0 n_this_square f_this_square n v6 v4)) (fun K7 => im_lt (v4 - v2) (fun v8 => if v8 ≤ (3 : Int32) then (K7 v1) else im_lt (v1 + v4) (fun v9 => im_lt (v9 - v2) (fun v10 => im_lt (v10 - (2 : Int32)) (fun v11 => (K7 v11))))))) (fun K5 => (im_X5_runs_L16 K5 x1 x0 n_this_square f_this_square v2 5000 v2))
def im_X5_runs (x0 : Int32) (x1 : Int32) (n_this_square : Nat) (f_this_square : Nat → Int32) : Option (Int32) := (im_X5_runs_L5 x1 x0 n_this_square f_this_square 5000 (0 : Int32) (0 : Int32))
abbrev rm_X5_runs : Room := { frames := 0, cells := 0, slots := 0, locals := 0 }
theorem hn_X5_runs_X5 : ∀ w ∈ wsX50, w ∈ wsX5_runs := by decide +kernel
theorem fl_X5_runs_49 : Cond.fieldLink RX5 49 "BarCodesModel" "square" "[I" ∈ wsX5_runs := by decide +kernel
set_option maxHeartbeats 4000000 in
set_option maxRecDepth 100000 in
theorem c_X5_runs (l : Launch) (dC : Nat → ClassId) (dI : Nat → Nat → Nat) (cI cJ cZ : ClassId) (a_this a_this_bits a_this_values a_this_has a_this_row a_this_seen a_this_told a_this_word a_this_gone a_this_lines a_this_places a_this_square : Nat) (i_this_thrown i_this_kind i_this_form i_this_fields i_this_checks i_this_symbols i_this_size i_this_many i_this_right i_this_mended i_this_mask i_this_turned : Int32) (n_this_square : Nat) (f_this_square : Nat → Int32) (x0 : Int32) (x1 : Int32) {r : Int32} (h : im_X5_runs x0 x1 n_this_square f_this_square = some r) : Met l yX5_runs wsX5_runs rm_X5_runs (va_Pc [.ref a_this, .int x0, .int x1] (fun U => va_P (dC, dI) vwCl [(a_this, .inr (4, [.int i_this_thrown, .int i_this_kind, .int i_this_form, .ref a_this_bits, .ref a_this_values, .ref a_this_has, .int i_this_fields, .int i_this_checks, .int i_this_symbols, .ref a_this_row, .int i_this_size, .ref a_this_seen, .int i_this_many, .ref a_this_told, .int i_this_right, .int i_this_mended, .int i_this_mask, .int i_this_turned, .ref a_this_word, .ref a_this_gone, .ref a_this_lines, .ref a_this_places, .ref a_this_square])), (a_this_square, .inl (cI, n_this_square, .inl f_this_square))] U.heap ∧ va_K (dC, dI) vwCl [(cI, .int), (cJ, .long), (cZ, .boolean)] U)) (vp_Si (fun r9 => r9 = r)) 0 0 (fun _ => False) := by
  refine Met.ofW (cc := cX5_runs) (maxL := 6) (ret := (some .int)) (by decide) rfl ?_
  intro p e s m args below meth c s₁ B hml hv
  obtain ⟨eargs, hP, hK⟩ := hv
  have hx := B.exec
  have hb := B.bytes
  have hr := B.returns
  have hts := atoms_spec (ws := wsX5_runs) B.pre
  have hown : s.vm.findClass RX5 = some m.cls := findClass_of_methodNamed B.named
  have hlocks := B.notSynchronized
  refine im_Q (fun Q eQ => ?_)
  have hl := lv_entry [.ref a_this, .int x0, .int x1] (n := 6) (Nat.le_of_ble_eq_true rfl)
  rw [show entryFrame m args 6 = entryFrame m ([.ref a_this, .int x0, .int x1] : List Value).toArray 6 by rw [eargs], lg_entry_eq]
  generalize (lg_sl ([.ref a_this, .int x0, .int x1]) ++ List.replicate (6 - (lg_sl ([.ref a_this, .int x0, .int x1])).length) Slot.unset).toArray = ls at hl ⊢
  have hl : lv_has ls 6 [(0, .ref a_this), (1, .int x0), (2, .int x1)] := hl
  rw [im_X5_runs] at h
  refine lv_iconst (v := (0 : Int32)) hx hb dX5_runs_0 (by decide) ?_
  refine lv_istore_n (lv' := [(3, .int (0 : Int32)), (0, .ref a_this), (1, .int x0), (2, .int x1)]) hx hb dX5_runs_1 rfl hl (by decide) rfl (fun ls hl => ?_)
  refine lv_iconst (v := (0 : Int32)) hx hb dX5_runs_2 (by decide) ?_
  refine lv_istore (lv' := [(4, .int (0 : Int32)), (3, .int (0 : Int32)), (0, .ref a_this), (1, .int x0), (2, .int x1)]) hx hb dX5_runs_3 hl (by decide) rfl (fun ls hl => ?_)
  have Lp3 : ∀ (n : Nat) (v1 : Int32) (v2 : Int32), im_X5_runs_L5 x1 x0 n_this_square f_this_square n v1 v2 = some r → ∀ (ls : Array Slot), lv_has ls 6 [(0, .ref a_this), (1, .int x0), (2, .int x1), (3, .int v1), (4, .int v2)] → W p l e (headSpec wsX5_runs rm_X5_runs).room s m args below meth c s.heap [] 0 0 Q (F0 m 5 ls []) := by
    intro n
    induction n with
    | zero => intro v1 v2 h; rw [im_X5_runs_L5] at h; cases h
    | succ n ih =>
      intro v1 v2 h ls hl
      rw [im_X5_runs_L5] at h
      refine lv_iload hx hb dX5_runs_5 (lv_at hl 4 rfl) ?_
      refine lv_bipush (v := (12 : Int32)) hx hb dX5_runs_7 (by decide) ?_
      refine lv_icmp_ge (tgt := 84) hx hb dX5_runs_9 (by decide) (fun c9 => ?_) (fun c9 => ?_)
      · replace h := im_t c9 h
        refine lv_iload_n hx hb dX5_runs_84 rfl (lv_at hl 3 rfl) ?_
        rw [eQ]
        exact W.iret (v := v1) hx hb hr (fun t ht hW => ⟨_, rfl, Option.some.inj h, ht⟩) (fun _ h9 => by cases h9) dX5_runs_85
      · replace h := im_f c9 h
        refine lv_iload hx hb dX5_runs_12 (lv_at hl 4 rfl) ?_
        refine lv_istore (lv' := [(5, .int v2), (0, .ref a_this), (1, .int x0), (2, .int x1), (3, .int v1), (4, .int v2)]) hx hb dX5_runs_14 hl (by decide) rfl (fun ls hl => ?_)
        refine im_j1_u (P := fun v4 => ∀ (ls : Array Slot), lv_has ls 6 [(0, .ref a_this), (1, .int x0), (2, .int x1), (3, .int v1), (4, .int v2), (5, .int v4)] → W p l e (headSpec wsX5_runs rm_X5_runs).room s m args below meth c s.heap [] 0 0 Q (F0 m 54 ls [])) h (fun v4 h ls hl => ?_) (fun K5 J5 h => ?_)
        · refine im_j1_u (P := fun v6 => ∀ (ls : Array Slot), lv_has ls 6 [(0, .ref a_this), (1, .int x0), (2, .int x1), (5, .int v4)] → W p l e (headSpec wsX5_runs rm_X5_runs).room s m args below meth c s.heap [] 0 0 Q (F0 m 76 ls [.int v6])) h (fun v6 h ls hl => ?_) (fun K7 J7 h => ?_)
          · refine lv_istore_n (lv' := [(3, .int v6), (0, .ref a_this), (1, .int x0), (2, .int x1), (5, .int v4)]) hx hb dX5_runs_76 rfl hl (by decide) rfl (fun ls hl => ?_)
            refine lv_iload hx hb dX5_runs_77 (lv_at hl 4 rfl) ?_
            refine lv_istore (lv' := [(4, .int v4), (3, .int v6), (0, .ref a_this), (1, .int x0), (2, .int x1), (5, .int v4)]) hx hb dX5_runs_79 hl (by decide) rfl (fun ls hl => ?_)
            refine lv_goto (tgt := 5) hx hb dX5_runs_81 (by decide) ?_
            exact ih v6 v4 h _ (lv_sub hl [2, 3, 4, 1, 0] rfl)
          · refine lv_iload hx hb dX5_runs_54 (lv_at hl 5 rfl) ?_
            refine lv_iload hx hb dX5_runs_56 (lv_at hl 4 rfl) ?_
            refine lv_isub hx hb dX5_runs_58 ?_
            refine lv_topi (fun v8 ev8 => ?_)
            replace h := im_lt_u h v8 ev8
            refine lv_iconst (v := (3 : Int32)) hx hb dX5_runs_59 (by decide) ?_
            refine lv_icmp_le (tgt := 75) hx hb dX5_runs_60 (by decide) (fun c60 => ?_) (fun c60 => ?_)
            · replace h := im_t c60 h
              refine lv_iload_n hx hb dX5_runs_75 rfl (lv_at hl 3 rfl) ?_
              exact J7 v1 h _ (lv_sub hl [0, 1, 2, 5] rfl)
            · replace h := im_f c60 h
              refine lv_iload_n hx hb dX5_runs_63 rfl (lv_at hl 3 rfl) ?_
              refine lv_iload hx hb dX5_runs_64 (lv_at hl 5 rfl) ?_
              refine lv_iadd hx hb dX5_runs_66 ?_
              refine lv_topi (fun v9 ev9 => ?_)
              replace h := im_lt_u h v9 ev9
              refine lv_iload hx hb dX5_runs_67 (lv_at hl 4 rfl) ?_
              refine lv_isub hx hb dX5_runs_69 ?_
              refine lv_topi (fun v10 ev10 => ?_)
              replace h := im_lt_u h v10 ev10
              refine lv_iconst (v := (2 : Int32)) hx hb dX5_runs_70 (by decide) ?_
              refine lv_isub hx hb dX5_runs_71 ?_
              refine lv_topi (fun v11 ev11 => ?_)
              replace h := im_lt_u h v11 ev11
              refine lv_goto (tgt := 76) hx hb dX5_runs_72 (by decide) ?_
              exact J7 v11 h _ (lv_sub hl [0, 1, 2, 5] rfl)
        · have Lp13 : ∀ (n : Nat) (v12 : Int32), im_X5_runs_L16 K5 x1 x0 n_this_square f_this_square v2 n v12 = some r → ∀ (ls : Array Slot), lv_has ls 6 [(0, .ref a_this), (1, .int x0), (2, .int x1), (3, .int v1), (4, .int v2), (5, .int v12)] → W p l e (headSpec wsX5_runs rm_X5_runs).room s m args below meth c s.heap [] 0 0 Q (F0 m 16 ls []) := by
            intro n
            induction n with
            | zero => intro v12 h; rw [im_X5_runs_L16] at h; cases h
            | succ n ih =>
              intro v12 h ls hl
              rw [im_X5_runs_L16] at h
              refine lv_iload hx hb dX5_runs_16 (lv_at hl 5 rfl) ?_
              refine lv_bipush (v := (12 : Int32)) hx hb dX5_runs_18 (by decide) ?_
              refine lv_icmp_ge (tgt := 54) hx hb dX5_runs_20 (by decide) (fun c20 => ?_) (fun c20 => ?_)
              · replace h := im_t c20 h
                exact J5 v12 h _ (lv_sub hl [0, 1, 2, 3, 4, 5] rfl)
              · replace h := im_f c20 h
                refine lv_aload_n hx hb dX5_runs_23 rfl (lv_at hl 0 rfl) ?_
                refine va_get (D := (dC, dI)) (ci := 4) (v := .ref a_this_square) (C := RX5) (T := TX5) (N := 23) hx hb hts hn_X5_runs_X5 hown hK hP 0 rfl rfl 22 (by decide) (hts _ fl_X5_runs_49) (fun _ h9 => h9) rfl dX5_runs_24 ?_
                refine lv_iload_n hx hb dX5_runs_27 rfl (lv_at hl 1 rfl) ?_
                refine lv_iload hx hb dX5_runs_28 (lv_at hl 5 rfl) ?_
                refine lv_iload_n hx hb dX5_runs_30 rfl (lv_at hl 2 rfl) ?_
                refine lv_imul hx hb dX5_runs_31 ?_
                refine lv_topi (fun v14 ev14 => ?_)
                replace h := im_lt_u h v14 ev14
                refine lv_iadd hx hb dX5_runs_32 ?_
                refine lv_topi (fun v15 ev15 => ?_)
                replace h := im_lt_u h v15 ev15
                obtain ⟨q33, h⟩ := im_ld_u h
                refine va_iald hx hb hK hP 1 0 rfl rfl q33 dX5_runs_33 ?_
                refine lv_topi (fun v16 ev16 => ?_)
                replace h := h v16 ev16
                refine lv_aload_n hx hb dX5_runs_34 rfl (lv_at hl 0 rfl) ?_
                refine va_get (D := (dC, dI)) (ci := 4) (v := .ref a_this_square) (C := RX5) (T := TX5) (N := 23) hx hb hts hn_X5_runs_X5 hown hK hP 0 rfl rfl 22 (by decide) (hts _ fl_X5_runs_49) (fun _ h9 => h9) rfl dX5_runs_35 ?_
                refine lv_iload_n hx hb dX5_runs_38 rfl (lv_at hl 1 rfl) ?_
                refine lv_iload hx hb dX5_runs_39 (lv_at hl 4 rfl) ?_
                refine lv_iload_n hx hb dX5_runs_41 rfl (lv_at hl 2 rfl) ?_
                refine lv_imul hx hb dX5_runs_42 ?_
                refine lv_topi (fun v17 ev17 => ?_)
                replace h := im_lt_u h v17 ev17
                refine lv_iadd hx hb dX5_runs_43 ?_
                refine lv_topi (fun v18 ev18 => ?_)
                replace h := im_lt_u h v18 ev18
                obtain ⟨q44, h⟩ := im_ld_u h
                refine va_iald hx hb hK hP 1 0 rfl rfl q44 dX5_runs_44 ?_
                refine lv_topi (fun v19 ev19 => ?_)
                replace h := h v19 ev19
                refine lv_icmp_ne (tgt := 54) hx hb dX5_runs_45 (by decide) (fun c45 => ?_) (fun c45 => ?_)
                · replace h := im_f c45 h
                  exact J5 v12 h _ (lv_sub hl [0, 1, 2, 3, 4, 5] rfl)
                · replace h := im_t c45 h
                  obtain ⟨v20, ev20⟩ : ∃ y : Int32, y = (v12 + (1 : Int32)) := ⟨_, rfl⟩
                  replace h := im_lt_u h v20 ev20
                  refine lv_iinc (v := v20) (lv' := [(5, .int v20), (0, .ref a_this), (1, .int x0), (2, .int x1), (3, .int v1), (4, .int v2)]) hx hb dX5_runs_48 hl (k := 5) rfl (by rw [ev20]; rfl) (by decide) rfl (fun ls hl => ?_)
                  refine lv_goto (tgt := 16) hx hb dX5_runs_51 (by decide) ?_
                  exact ih v20 h _ (lv_sub hl [1, 2, 3, 4, 5, 0] rfl)
          exact Lp13 5000 v2 h _ (lv_sub hl [1, 2, 3, 4, 5, 0] rfl)
  exact Lp3 5000 (0 : Int32) (0 : Int32) h _ (lv_sub hl [2, 3, 4, 1, 0] rfl)
def im_X5_penalty_L40 (K5 : Int32 → Int32 → Option (Int32)) (n_this_square : Nat) (f_this_square : Nat → Int32) : Nat → Int32 → Int32 → Int32 → Option (Int32)
  | 0, _, _, _ => none
  | n + 1, v14, v15, v16 => if (144 : Int32) ≤ v16 then (K5 v14 v15) else im_j2 (fun (v18 : Int32) (v19 : Int32) => im_j1 (fun (v21 : Int32) => im_lt (v16 + (1 : Int32)) (fun v23 => (im_X5_penalty_L40 K5 n_this_square f_this_square n v21 v18 v23))) (fun K22 => if v19 = 0 then (K22 v14) else im_lt (v14 + (3 : Int32)) (fun v24 => (K22 v24)))) (fun K20 => im_j1 (fun (v25 : Int32) => (K20 v25 (0 : Int32))) (fun K26 => im_ld n_this_square f_this_square v16 (fun v27 => im_lt (v15 + v27) (fun v28 => im_lt (v16 - v16 / (12 : Int32) * (12 : Int32)) (fun v29 => if (11 : Int32) ≤ v29 then (K26 v28) else if (132 : Int32) ≤ v16 then (K26 v28) else im_ld n_this_square f_this_square v16 (fun v30 => im_lt (v16 + (1 : Int32)) (fun v31 => im_ld n_this_square f_this_square v31 (fun v32 => if v30 = v32 then im_ld n_this_square f_this_square v16 (fun v33 => im_lt (v16 + (12 : Int32)) (fun v34 => im_ld n_this_square f_this_square v34 (fun v35 => if v33 = v35 then im_ld n_this_square f_this_square v16 (fun v36 => im_lt (v16 + (13 : Int32)) (fun v37 => im_ld n_this_square f_this_square v37 (fun v38 => if v36 = v38 then (K20 v28 (1 : Int32)) else (K26 v28)))) else (K26 v28)))) else (K26 v28)))))))))
def im_X5_penalty_L6 (K2 : Int32 → Option (Int32)) (n_this_square : Nat) (f_this_square : Nat → Int32) : Nat → Int32 → Int32 → Option (Int32)
  | 0, _, _ => none
  | n + 1, v39, v40 => if (12 : Int32) ≤ v40 then (K2 v39) else im_lt ((12 : Int32) * v40) (fun v42 => im_b1 (im_X5_runs v42 (1 : Int32) n_this_square f_this_square) (fun v43 => im_lt (v39 + v43) (fun v44 => im_b1 (im_X5_runs v40 (12 : Int32) n_this_square f_this_square) (fun v45 => im_lt (v44 + v45) (fun v46 => im_lt (v40 + (1 : Int32)) (fun v47 => (im_X5_penalty_L6 K2 n_this_square f_this_square n v46 v47)))))))
def im_X5_penalty (n_this_square : Nat) (f_this_square : Nat → Int32) : Option (Int32) := im_j1 (fun (v1 : Int32) => im_j2 (fun (v3 : Int32) (v4 : Int32) => im_j2 (fun (v6 : Int32) (v7 : Int32) => im_lt (v6 / (2 : Int32)) (fun v9 => im_lt (v7 + v9) (fun v10 => (some v10)))) (fun K8 => im_lt ((2 : Int32) * v4) (fun v11 => im_lt ((144 : Int32) - v11) (fun v12 => if 0 ≤ v12 then (K8 v12 v3) else im_lt (-v12) (fun v13 => (K8 v13 v3)))))) (fun K5 => (im_X5_penalty_L40 K5 n_this_square f_this_square 5000 v1 (0 : Int32) (0 : Int32)))) (fun K2 => (im_X5_penalty_L6 K2 n_this_square f_this_square 5000 (0 : Int32) (0 : Int32)))
abbrev rm_X5_penalty : Room := { frames := 1, cells := 0, slots := 0, locals := 25 }
theorem hn_X5_penalty_X5 : ∀ w ∈ wsX50, w ∈ wsX5_penalty := by decide +kernel
theorem fl_X5_penalty_49 : Cond.fieldLink RX5 49 "BarCodesModel" "square" "[I" ∈ wsX5_penalty := by decide +kernel
set_option maxHeartbeats 4000000 in
set_option maxRecDepth 100000 in
theorem c_X5_penalty (l : Launch) (dC : Nat → ClassId) (dI : Nat → Nat → Nat) (cI cJ cZ : ClassId) (a_this a_this_bits a_this_values a_this_has a_this_row a_this_seen a_this_told a_this_word a_this_gone a_this_lines a_this_places a_this_square : Nat) (i_this_thrown i_this_kind i_this_form i_this_fields i_this_checks i_this_symbols i_this_size i_this_many i_this_right i_this_mended i_this_mask i_this_turned : Int32) (n_this_square : Nat) (f_this_square : Nat → Int32) {r : Int32} (h : im_X5_penalty n_this_square f_this_square = some r) : Met l yX5_penalty wsX5_penalty rm_X5_penalty (va_Pc [.ref a_this] (fun U => va_P (dC, dI) vwCl [(a_this, .inr (4, [.int i_this_thrown, .int i_this_kind, .int i_this_form, .ref a_this_bits, .ref a_this_values, .ref a_this_has, .int i_this_fields, .int i_this_checks, .int i_this_symbols, .ref a_this_row, .int i_this_size, .ref a_this_seen, .int i_this_many, .ref a_this_told, .int i_this_right, .int i_this_mended, .int i_this_mask, .int i_this_turned, .ref a_this_word, .ref a_this_gone, .ref a_this_lines, .ref a_this_places, .ref a_this_square])), (a_this_square, .inl (cI, n_this_square, .inl f_this_square))] U.heap ∧ va_K (dC, dI) vwCl [(cI, .int), (cJ, .long), (cZ, .boolean)] U)) (vp_Si (fun r9 => r9 = r)) 0 0 (fun _ => False) := by
  refine Met.ofW (cc := cX5_penalty) (maxL := 5) (ret := (some .int)) (by decide) rfl ?_
  intro p e s m args below meth c s₁ B hml hv
  obtain ⟨eargs, hP, hK⟩ := hv
  have hx := B.exec
  have hb := B.bytes
  have hr := B.returns
  have hts := atoms_spec (ws := wsX5_penalty) B.pre
  have hown : s.vm.findClass RX5 = some m.cls := findClass_of_methodNamed B.named
  have hlocks := B.notSynchronized
  refine im_Q (fun Q eQ => ?_)
  have hl := lv_entry [.ref a_this] (n := 5) (Nat.le_of_ble_eq_true rfl)
  rw [show entryFrame m args 5 = entryFrame m ([.ref a_this] : List Value).toArray 5 by rw [eargs], lg_entry_eq]
  generalize (lg_sl ([.ref a_this]) ++ List.replicate (5 - (lg_sl ([.ref a_this])).length) Slot.unset).toArray = ls at hl ⊢
  have hl : lv_has ls 5 [(0, .ref a_this)] := hl
  rw [im_X5_penalty] at h
  refine lv_iconst (v := (0 : Int32)) hx hb dX5_penalty_0 (by decide) ?_
  refine lv_istore_n (lv' := [(1, .int (0 : Int32)), (0, .ref a_this)]) hx hb dX5_penalty_1 rfl hl (by decide) rfl (fun ls hl => ?_)
  refine lv_iconst (v := (0 : Int32)) hx hb dX5_penalty_2 (by decide) ?_
  refine lv_istore_n (lv' := [(2, .int (0 : Int32)), (1, .int (0 : Int32)), (0, .ref a_this)]) hx hb dX5_penalty_3 rfl hl (by decide) rfl (fun ls hl => ?_)
  refine lv_iconst (v := (0 : Int32)) hx hb dX5_penalty_4 (by decide) ?_
  refine lv_istore_n (lv' := [(3, .int (0 : Int32)), (2, .int (0 : Int32)), (1, .int (0 : Int32)), (0, .ref a_this)]) hx hb dX5_penalty_5 rfl hl (by decide) rfl (fun ls hl => ?_)
  refine im_j1_u (P := fun v1 => ∀ (ls : Array Slot), lv_has ls 5 [(0, .ref a_this), (1, .int v1), (2, .int (0 : Int32))] → W p l e (headSpec wsX5_penalty rm_X5_penalty).room s m args below meth c s.heap [] 0 0 Q (F0 m 38 ls [])) h (fun v1 h ls hl => ?_) (fun K2 J2 h => ?_)
  · refine lv_iconst (v := (0 : Int32)) hx hb dX5_penalty_38 (by decide) ?_
    refine lv_istore_n (lv' := [(3, .int (0 : Int32)), (0, .ref a_this), (1, .int v1), (2, .int (0 : Int32))]) hx hb dX5_penalty_39 rfl hl (by decide) rfl (fun ls hl => ?_)
    refine im_j2_u (P := fun v3 v4 => ∀ (ls : Array Slot), lv_has ls 5 [(1, .int v3), (2, .int v4)] → W p l e (headSpec wsX5_penalty rm_X5_penalty).room s m args below meth c s.heap [] 0 0 Q (F0 m 151 ls [])) h (fun v3 v4 h ls hl => ?_) (fun K5 J5 h => ?_)
    · refine im_j2_u (P := fun v6 v7 => ∀ (ls : Array Slot), lv_has ls 5 [] → W p l e (headSpec wsX5_penalty rm_X5_penalty).room s m args below meth c s.heap [] 0 0 Q (F0 m 170 ls [.int v6, .int v7])) h (fun v6 v7 h ls hl => ?_) (fun K8 J8 h => ?_)
      · refine lv_iconst (v := (2 : Int32)) hx hb dX5_penalty_170 (by decide) ?_
        refine lv_idiv hx hb dX5_penalty_171 (by decide) ?_
        refine lv_topi (fun v9 ev9 => ?_)
        replace h := im_lt_u h v9 ev9
        refine lv_iadd hx hb dX5_penalty_172 ?_
        refine lv_topi (fun v10 ev10 => ?_)
        replace h := im_lt_u h v10 ev10
        rw [eQ]
        exact W.iret (v := v10) hx hb hr (fun t ht hW => ⟨_, rfl, Option.some.inj h, ht⟩) (fun _ h9 => by cases h9) dX5_penalty_173
      · refine lv_sipush (v := (144 : Int32)) hx hb dX5_penalty_151 (by decide) ?_
        refine lv_iconst (v := (2 : Int32)) hx hb dX5_penalty_154 (by decide) ?_
        refine lv_iload_n hx hb dX5_penalty_155 rfl (lv_at hl 1 rfl) ?_
        refine lv_imul hx hb dX5_penalty_156 ?_
        refine lv_topi (fun v11 ev11 => ?_)
        replace h := im_lt_u h v11 ev11
        refine lv_isub hx hb dX5_penalty_157 ?_
        refine lv_topi (fun v12 ev12 => ?_)
        replace h := im_lt_u h v12 ev12
        refine lv_istore_n (lv' := [(3, .int v12), (1, .int v3), (2, .int v4)]) hx hb dX5_penalty_158 rfl hl (by decide) rfl (fun ls hl => ?_)
        refine lv_iload_n hx hb dX5_penalty_159 rfl (lv_at hl 1 rfl) ?_
        refine lv_iload_n hx hb dX5_penalty_160 rfl (lv_at hl 0 rfl) ?_
        refine lv_if_ge (tgt := 169) hx hb dX5_penalty_161 (by decide) (fun c161 => ?_) (fun c161 => ?_)
        · replace h := im_t c161 h
          refine lv_iload_n hx hb dX5_penalty_169 rfl (lv_at hl 0 rfl) ?_
          exact J8 v12 v3 h _ (lv_sub hl [] rfl)
        · replace h := im_f c161 h
          refine lv_iload_n hx hb dX5_penalty_164 rfl (lv_at hl 0 rfl) ?_
          refine lv_ineg hx hb dX5_penalty_165 ?_
          refine lv_topi (fun v13 ev13 => ?_)
          replace h := im_lt_u h v13 ev13
          refine lv_goto (tgt := 170) hx hb dX5_penalty_166 (by decide) ?_
          exact J8 v13 v3 h _ (lv_sub hl [] rfl)
    · have Lp17 : ∀ (n : Nat) (v14 : Int32) (v15 : Int32) (v16 : Int32), im_X5_penalty_L40 K5 n_this_square f_this_square n v14 v15 v16 = some r → ∀ (ls : Array Slot), lv_has ls 5 [(0, .ref a_this), (1, .int v14), (2, .int v15), (3, .int v16)] → W p l e (headSpec wsX5_penalty rm_X5_penalty).room s m args below meth c s.heap [] 0 0 Q (F0 m 40 ls []) := by
        intro n
        induction n with
        | zero => intro v14 v15 v16 h; rw [im_X5_penalty_L40] at h; cases h
        | succ n ih =>
          intro v14 v15 v16 h ls hl
          rw [im_X5_penalty_L40] at h
          refine lv_iload_n hx hb dX5_penalty_40 rfl (lv_at hl 3 rfl) ?_
          refine lv_sipush (v := (144 : Int32)) hx hb dX5_penalty_41 (by decide) ?_
          refine lv_icmp_ge (tgt := 151) hx hb dX5_penalty_44 (by decide) (fun c44 => ?_) (fun c44 => ?_)
          · replace h := im_t c44 h
            exact J5 v14 v15 h _ (lv_sub hl [1, 2] rfl)
          · replace h := im_f c44 h
            refine im_j2_u (P := fun v18 v19 => ∀ (ls : Array Slot), lv_has ls 5 [(0, .ref a_this), (1, .int v14), (2, .int v18), (3, .int v16)] → W p l e (headSpec wsX5_penalty rm_X5_penalty).room s m args below meth c s.heap [] 0 0 Q (F0 m 130 ls [.int v19])) h (fun v18 v19 h ls hl => ?_) (fun K20 J20 h => ?_)
            · refine im_j1_u (P := fun v21 => ∀ (ls : Array Slot), lv_has ls 5 [(0, .ref a_this), (2, .int v18), (3, .int v16)] → W p l e (headSpec wsX5_penalty rm_X5_penalty).room s m args below meth c s.heap [] 0 0 Q (F0 m 144 ls [.int v21])) h (fun v21 h ls hl => ?_) (fun K22 J22 h => ?_)
              · refine lv_istore_n (lv' := [(1, .int v21), (0, .ref a_this), (2, .int v18), (3, .int v16)]) hx hb dX5_penalty_144 rfl hl (by decide) rfl (fun ls hl => ?_)
                obtain ⟨v23, ev23⟩ : ∃ y : Int32, y = (v16 + (1 : Int32)) := ⟨_, rfl⟩
                replace h := im_lt_u h v23 ev23
                refine lv_iinc (v := v23) (lv' := [(3, .int v23), (1, .int v21), (0, .ref a_this), (2, .int v18)]) hx hb dX5_penalty_145 hl (k := 3) rfl (by rw [ev23]; rfl) (by decide) rfl (fun ls hl => ?_)
                refine lv_goto (tgt := 40) hx hb dX5_penalty_148 (by decide) ?_
                exact ih v21 v18 v23 h _ (lv_sub hl [2, 1, 3, 0] rfl)
              · refine lv_istore (lv' := [(4, .int v19), (0, .ref a_this), (1, .int v14), (2, .int v18), (3, .int v16)]) hx hb dX5_penalty_130 hl (by decide) rfl (fun ls hl => ?_)
                refine lv_iload hx hb dX5_penalty_132 (lv_at hl 0 rfl) ?_
                refine lv_if_eq (tgt := 143) hx hb dX5_penalty_134 (by decide) (fun c134 => ?_) (fun c134 => ?_)
                · replace h := im_t c134 h
                  refine lv_iload_n hx hb dX5_penalty_143 rfl (lv_at hl 2 rfl) ?_
                  exact J22 v14 h _ (lv_sub hl [1, 3, 4] rfl)
                · replace h := im_f c134 h
                  refine lv_iload_n hx hb dX5_penalty_137 rfl (lv_at hl 2 rfl) ?_
                  refine lv_iconst (v := (3 : Int32)) hx hb dX5_penalty_138 (by decide) ?_
                  refine lv_iadd hx hb dX5_penalty_139 ?_
                  refine lv_topi (fun v24 ev24 => ?_)
                  replace h := im_lt_u h v24 ev24
                  refine lv_goto (tgt := 144) hx hb dX5_penalty_140 (by decide) ?_
                  exact J22 v24 h _ (lv_sub hl [1, 3, 4] rfl)
            · refine im_j1_u (P := fun v25 => ∀ (ls : Array Slot), lv_has ls 5 [(0, .ref a_this), (1, .int v14), (2, .int v25), (3, .int v16)] → W p l e (headSpec wsX5_penalty rm_X5_penalty).room s m args below meth c s.heap [] 0 0 Q (F0 m 129 ls [])) h (fun v25 h ls hl => ?_) (fun K26 J26 h => ?_)
              · refine lv_iconst (v := (0 : Int32)) hx hb dX5_penalty_129 (by decide) ?_
                exact J20 v25 (0 : Int32) h _ (lv_sub hl [0, 1, 2, 3] rfl)
              · refine lv_iload_n hx hb dX5_penalty_47 rfl (lv_at hl 2 rfl) ?_
                refine lv_aload_n hx hb dX5_penalty_48 rfl (lv_at hl 0 rfl) ?_
                refine va_get (D := (dC, dI)) (ci := 4) (v := .ref a_this_square) (C := RX5) (T := TX5) (N := 23) hx hb hts hn_X5_penalty_X5 hown hK hP 0 rfl rfl 22 (by decide) (hts _ fl_X5_penalty_49) (fun _ h9 => h9) rfl dX5_penalty_49 ?_
                refine lv_iload_n hx hb dX5_penalty_52 rfl (lv_at hl 3 rfl) ?_
                obtain ⟨q53, h⟩ := im_ld_u h
                refine va_iald hx hb hK hP 1 0 rfl rfl q53 dX5_penalty_53 ?_
                refine lv_topi (fun v27 ev27 => ?_)
                replace h := h v27 ev27
                refine lv_iadd hx hb dX5_penalty_54 ?_
                refine lv_topi (fun v28 ev28 => ?_)
                replace h := im_lt_u h v28 ev28
                refine lv_istore_n (lv' := [(2, .int v28), (0, .ref a_this), (1, .int v14), (3, .int v16)]) hx hb dX5_penalty_55 rfl hl (by decide) rfl (fun ls hl => ?_)
                refine lv_iload_n hx hb dX5_penalty_56 rfl (lv_at hl 3 rfl) ?_
                refine lv_bipush (v := (12 : Int32)) hx hb dX5_penalty_57 (by decide) ?_
                refine lv_irem hx hb dX5_penalty_59 (by decide) ?_
                refine lv_topi (fun v29 ev29 => ?_)
                replace h := im_lt_u h v29 ev29
                refine lv_bipush (v := (11 : Int32)) hx hb dX5_penalty_60 (by decide) ?_
                refine lv_icmp_ge (tgt := 129) hx hb dX5_penalty_62 (by decide) (fun c62 => ?_) (fun c62 => ?_)
                · replace h := im_t c62 h
                  exact J26 v28 h _ (lv_sub hl [1, 2, 0, 3] rfl)
                · replace h := im_f c62 h
                  refine lv_iload_n hx hb dX5_penalty_65 rfl (lv_at hl 3 rfl) ?_
                  refine lv_sipush (v := (132 : Int32)) hx hb dX5_penalty_66 (by decide) ?_
                  refine lv_icmp_ge (tgt := 129) hx hb dX5_penalty_69 (by decide) (fun c69 => ?_) (fun c69 => ?_)
                  · replace h := im_t c69 h
                    exact J26 v28 h _ (lv_sub hl [1, 2, 0, 3] rfl)
                  · replace h := im_f c69 h
                    refine lv_aload_n hx hb dX5_penalty_72 rfl (lv_at hl 1 rfl) ?_
                    refine va_get (D := (dC, dI)) (ci := 4) (v := .ref a_this_square) (C := RX5) (T := TX5) (N := 23) hx hb hts hn_X5_penalty_X5 hown hK hP 0 rfl rfl 22 (by decide) (hts _ fl_X5_penalty_49) (fun _ h9 => h9) rfl dX5_penalty_73 ?_
                    refine lv_iload_n hx hb dX5_penalty_76 rfl (lv_at hl 3 rfl) ?_
                    obtain ⟨q77, h⟩ := im_ld_u h
                    refine va_iald hx hb hK hP 1 0 rfl rfl q77 dX5_penalty_77 ?_
                    refine lv_topi (fun v30 ev30 => ?_)
                    replace h := h v30 ev30
                    refine lv_aload_n hx hb dX5_penalty_78 rfl (lv_at hl 1 rfl) ?_
                    refine va_get (D := (dC, dI)) (ci := 4) (v := .ref a_this_square) (C := RX5) (T := TX5) (N := 23) hx hb hts hn_X5_penalty_X5 hown hK hP 0 rfl rfl 22 (by decide) (hts _ fl_X5_penalty_49) (fun _ h9 => h9) rfl dX5_penalty_79 ?_
                    refine lv_iload_n hx hb dX5_penalty_82 rfl (lv_at hl 3 rfl) ?_
                    refine lv_iconst (v := (1 : Int32)) hx hb dX5_penalty_83 (by decide) ?_
                    refine lv_iadd hx hb dX5_penalty_84 ?_
                    refine lv_topi (fun v31 ev31 => ?_)
                    replace h := im_lt_u h v31 ev31
                    obtain ⟨q85, h⟩ := im_ld_u h
                    refine va_iald hx hb hK hP 1 0 rfl rfl q85 dX5_penalty_85 ?_
                    refine lv_topi (fun v32 ev32 => ?_)
                    replace h := h v32 ev32
                    refine lv_icmp_ne (tgt := 129) hx hb dX5_penalty_86 (by decide) (fun c86 => ?_) (fun c86 => ?_)
                    · replace h := im_f c86 h
                      exact J26 v28 h _ (lv_sub hl [1, 2, 0, 3] rfl)
                    · replace h := im_t c86 h
                      refine lv_aload_n hx hb dX5_penalty_89 rfl (lv_at hl 1 rfl) ?_
                      refine va_get (D := (dC, dI)) (ci := 4) (v := .ref a_this_square) (C := RX5) (T := TX5) (N := 23) hx hb hts hn_X5_penalty_X5 hown hK hP 0 rfl rfl 22 (by decide) (hts _ fl_X5_penalty_49) (fun _ h9 => h9) rfl dX5_penalty_90 ?_
                      refine lv_iload_n hx hb dX5_penalty_93 rfl (lv_at hl 3 rfl) ?_
                      obtain ⟨q94, h⟩ := im_ld_u h
                      refine va_iald hx hb hK hP 1 0 rfl rfl q94 dX5_penalty_94 ?_
                      refine lv_topi (fun v33 ev33 => ?_)
                      replace h := h v33 ev33
                      refine lv_aload_n hx hb dX5_penalty_95 rfl (lv_at hl 1 rfl) ?_
                      refine va_get (D := (dC, dI)) (ci := 4) (v := .ref a_this_square) (C := RX5) (T := TX5) (N := 23) hx hb hts hn_X5_penalty_X5 hown hK hP 0 rfl rfl 22 (by decide) (hts _ fl_X5_penalty_49) (fun _ h9 => h9) rfl dX5_penalty_96 ?_
                      refine lv_iload_n hx hb dX5_penalty_99 rfl (lv_at hl 3 rfl) ?_
                      refine lv_bipush (v := (12 : Int32)) hx hb dX5_penalty_100 (by decide) ?_
                      refine lv_iadd hx hb dX5_penalty_102 ?_
                      refine lv_topi (fun v34 ev34 => ?_)
                      replace h := im_lt_u h v34 ev34
                      obtain ⟨q103, h⟩ := im_ld_u h
                      refine va_iald hx hb hK hP 1 0 rfl rfl q103 dX5_penalty_103 ?_
                      refine lv_topi (fun v35 ev35 => ?_)
                      replace h := h v35 ev35
                      refine lv_icmp_ne (tgt := 129) hx hb dX5_penalty_104 (by decide) (fun c104 => ?_) (fun c104 => ?_)
                      · replace h := im_f c104 h
                        exact J26 v28 h _ (lv_sub hl [1, 2, 0, 3] rfl)
                      · replace h := im_t c104 h
                        refine lv_aload_n hx hb dX5_penalty_107 rfl (lv_at hl 1 rfl) ?_
                        refine va_get (D := (dC, dI)) (ci := 4) (v := .ref a_this_square) (C := RX5) (T := TX5) (N := 23) hx hb hts hn_X5_penalty_X5 hown hK hP 0 rfl rfl 22 (by decide) (hts _ fl_X5_penalty_49) (fun _ h9 => h9) rfl dX5_penalty_108 ?_
                        refine lv_iload_n hx hb dX5_penalty_111 rfl (lv_at hl 3 rfl) ?_
                        obtain ⟨q112, h⟩ := im_ld_u h
                        refine va_iald hx hb hK hP 1 0 rfl rfl q112 dX5_penalty_112 ?_
                        refine lv_topi (fun v36 ev36 => ?_)
                        replace h := h v36 ev36
                        refine lv_aload_n hx hb dX5_penalty_113 rfl (lv_at hl 1 rfl) ?_
                        refine va_get (D := (dC, dI)) (ci := 4) (v := .ref a_this_square) (C := RX5) (T := TX5) (N := 23) hx hb hts hn_X5_penalty_X5 hown hK hP 0 rfl rfl 22 (by decide) (hts _ fl_X5_penalty_49) (fun _ h9 => h9) rfl dX5_penalty_114 ?_
                        refine lv_iload_n hx hb dX5_penalty_117 rfl (lv_at hl 3 rfl) ?_
                        refine lv_bipush (v := (13 : Int32)) hx hb dX5_penalty_118 (by decide) ?_
                        refine lv_iadd hx hb dX5_penalty_120 ?_
                        refine lv_topi (fun v37 ev37 => ?_)
                        replace h := im_lt_u h v37 ev37
                        obtain ⟨q121, h⟩ := im_ld_u h
                        refine va_iald hx hb hK hP 1 0 rfl rfl q121 dX5_penalty_121 ?_
                        refine lv_topi (fun v38 ev38 => ?_)
                        replace h := h v38 ev38
                        refine lv_icmp_ne (tgt := 129) hx hb dX5_penalty_122 (by decide) (fun c122 => ?_) (fun c122 => ?_)
                        · replace h := im_f c122 h
                          exact J26 v28 h _ (lv_sub hl [1, 2, 0, 3] rfl)
                        · replace h := im_t c122 h
                          refine lv_iconst (v := (1 : Int32)) hx hb dX5_penalty_125 (by decide) ?_
                          refine lv_goto (tgt := 130) hx hb dX5_penalty_126 (by decide) ?_
                          exact J20 v28 (1 : Int32) h _ (lv_sub hl [1, 2, 0, 3] rfl)
      exact Lp17 5000 v1 (0 : Int32) (0 : Int32) h _ (lv_sub hl [1, 2, 3, 0] rfl)
  · have Lp41 : ∀ (n : Nat) (v39 : Int32) (v40 : Int32), im_X5_penalty_L6 K2 n_this_square f_this_square n v39 v40 = some r → ∀ (ls : Array Slot), lv_has ls 5 [(0, .ref a_this), (1, .int v39), (2, .int (0 : Int32)), (3, .int v40)] → W p l e (headSpec wsX5_penalty rm_X5_penalty).room s m args below meth c s.heap [] 0 0 Q (F0 m 6 ls []) := by
      intro n
      induction n with
      | zero => intro v39 v40 h; rw [im_X5_penalty_L6] at h; cases h
      | succ n ih =>
        intro v39 v40 h ls hl
        rw [im_X5_penalty_L6] at h
        refine lv_iload_n hx hb dX5_penalty_6 rfl (lv_at hl 3 rfl) ?_
        refine lv_bipush (v := (12 : Int32)) hx hb dX5_penalty_7 (by decide) ?_
        refine lv_icmp_ge (tgt := 38) hx hb dX5_penalty_9 (by decide) (fun c9 => ?_) (fun c9 => ?_)
        · replace h := im_t c9 h
          exact J2 v39 h _ (lv_sub hl [0, 1, 2] rfl)
        · replace h := im_f c9 h
          refine lv_iload_n hx hb dX5_penalty_12 rfl (lv_at hl 1 rfl) ?_
          refine lv_aload_n hx hb dX5_penalty_13 rfl (lv_at hl 0 rfl) ?_
          refine lv_bipush (v := (12 : Int32)) hx hb dX5_penalty_14 (by decide) ?_
          refine lv_iload_n hx hb dX5_penalty_16 rfl (lv_at hl 3 rfl) ?_
          refine lv_imul hx hb dX5_penalty_17 ?_
          refine lv_topi (fun v42 ev42 => ?_)
          replace h := im_lt_u h v42 ev42
          refine lv_iconst (v := (1 : Int32)) hx hb dX5_penalty_18 (by decide) ?_
          obtain ⟨v43, y19, h⟩ := im_b1_u h
          have hPc := hP.sub (ws' := [(a_this, .inr (4, [.int i_this_thrown, .int i_this_kind, .int i_this_form, .ref a_this_bits, .ref a_this_values, .ref a_this_has, .int i_this_fields, .int i_this_checks, .int i_this_symbols, .ref a_this_row, .int i_this_size, .ref a_this_seen, .int i_this_many, .ref a_this_told, .int i_this_right, .int i_this_mended, .int i_this_mask, .int i_this_turned, .ref a_this_word, .ref a_this_gone, .ref a_this_lines, .ref a_this_places, .ref a_this_square])), (a_this_square, .inl (cI, n_this_square, .inl f_this_square))]) [0, 1] rfl
          refine vp_callSi (W.runV (As := [.int v42, .int (1 : Int32)]) (rest := [.int v39]) ⟨hx, hb, hml, hown, hts⟩ (c_X5_runs l dC dI cI cJ cZ a_this a_this_bits a_this_values a_this_has a_this_row a_this_seen a_this_told a_this_word a_this_gone a_this_lines a_this_places a_this_square i_this_thrown i_this_kind i_this_form i_this_fields i_this_checks i_this_symbols i_this_size i_this_many i_this_right i_this_mended i_this_mask i_this_turned n_this_square f_this_square v42 (1 : Int32) y19) (cwV 2 hts gX5_penalty_X5_runs rfl rfl rfl (by decide +kernel) ⟨Nat.le_of_ble_eq_true rfl, Nat.le_of_ble_eq_true rfl⟩) ⟨fun a U g mk q => by obtain ⟨q0, qP, qK⟩ := q; exact ⟨q0, qP, va_K.moved (u := U) (U := U.calling g mk a) (Vm.Alike.refl U.vm) qK⟩, va_recv hK hPc (ci := 4) (q0 := 0) rfl rfl, fun U hU hW => ⟨rfl, by rw [hU]; exact hPc, va_K.moved hW.alike hK⟩⟩ rfl rfl hl.1 rfl (lv_room (Nat.le_of_ble_eq_true rfl)) dX5_penalty_19 ⟨Nat.zero_le _, Nat.zero_le _⟩) (fun w19 ew19 => ?_)
          have ew19 := ew19.symm
          subst ew19
          refine lv_iadd hx hb dX5_penalty_22 ?_
          refine lv_topi (fun v44 ev44 => ?_)
          replace h := im_lt_u h v44 ev44
          refine lv_aload_n hx hb dX5_penalty_23 rfl (lv_at hl 0 rfl) ?_
          refine lv_iload_n hx hb dX5_penalty_24 rfl (lv_at hl 3 rfl) ?_
          refine lv_bipush (v := (12 : Int32)) hx hb dX5_penalty_25 (by decide) ?_
          obtain ⟨v45, y27, h⟩ := im_b1_u h
          have hPc := hP.sub (ws' := [(a_this, .inr (4, [.int i_this_thrown, .int i_this_kind, .int i_this_form, .ref a_this_bits, .ref a_this_values, .ref a_this_has, .int i_this_fields, .int i_this_checks, .int i_this_symbols, .ref a_this_row, .int i_this_size, .ref a_this_seen, .int i_this_many, .ref a_this_told, .int i_this_right, .int i_this_mended, .int i_this_mask, .int i_this_turned, .ref a_this_word, .ref a_this_gone, .ref a_this_lines, .ref a_this_places, .ref a_this_square])), (a_this_square, .inl (cI, n_this_square, .inl f_this_square))]) [0, 1] rfl
          refine vp_callSi (W.runV (As := [.int v40, .int (12 : Int32)]) (rest := [.int v44]) ⟨hx, hb, hml, hown, hts⟩ (c_X5_runs l dC dI cI cJ cZ a_this a_this_bits a_this_values a_this_has a_this_row a_this_seen a_this_told a_this_word a_this_gone a_this_lines a_this_places a_this_square i_this_thrown i_this_kind i_this_form i_this_fields i_this_checks i_this_symbols i_this_size i_this_many i_this_right i_this_mended i_this_mask i_this_turned n_this_square f_this_square v40 (12 : Int32) y27) (cwV 2 hts gX5_penalty_X5_runs rfl rfl rfl (by decide +kernel) ⟨Nat.le_of_ble_eq_true rfl, Nat.le_of_ble_eq_true rfl⟩) ⟨fun a U g mk q => by obtain ⟨q0, qP, qK⟩ := q; exact ⟨q0, qP, va_K.moved (u := U) (U := U.calling g mk a) (Vm.Alike.refl U.vm) qK⟩, va_recv hK hPc (ci := 4) (q0 := 0) rfl rfl, fun U hU hW => ⟨rfl, by rw [hU]; exact hPc, va_K.moved hW.alike hK⟩⟩ rfl rfl hl.1 rfl (lv_room (Nat.le_of_ble_eq_true rfl)) dX5_penalty_27 ⟨Nat.zero_le _, Nat.zero_le _⟩) (fun w27 ew27 => ?_)
          have ew27 := ew27.symm
          subst ew27
          refine lv_iadd hx hb dX5_penalty_30 ?_
          refine lv_topi (fun v46 ev46 => ?_)
          replace h := im_lt_u h v46 ev46
          refine lv_istore_n (lv' := [(1, .int v46), (0, .ref a_this), (2, .int (0 : Int32)), (3, .int v40)]) hx hb dX5_penalty_31 rfl hl (by decide) rfl (fun ls hl => ?_)
          obtain ⟨v47, ev47⟩ : ∃ y : Int32, y = (v40 + (1 : Int32)) := ⟨_, rfl⟩
          replace h := im_lt_u h v47 ev47
          refine lv_iinc (v := v47) (lv' := [(3, .int v47), (1, .int v46), (0, .ref a_this), (2, .int (0 : Int32))]) hx hb dX5_penalty_32 hl (k := 3) rfl (by rw [ev47]; rfl) (by decide) rfl (fun ls hl => ?_)
          refine lv_goto (tgt := 6) hx hb dX5_penalty_35 (by decide) ?_
          exact ih v46 v47 h _ (lv_sub hl [2, 1, 3, 0] rfl)
    exact Lp41 5000 (0 : Int32) (0 : Int32) h _ (lv_sub hl [3, 2, 1, 0] rfl)
def im_X5_draw_L66 (v1 : Int32) (f4 : Nat → Int32) (n_this_square : Nat) (n_this_row : Nat) : Nat → Int32 → (Nat → Int32) → Option (Int32 × (Nat → Int32) × (Nat → Int32))
  | 0, _, _ => none
  | n + 1, v5, f6 => if (144 : Int32) ≤ v5 then (some (v1, f6, f4)) else im_ld n_this_square f4 v5 (fun v8 => im_st n_this_row f6 v5 v8 (fun f9 => im_lt (v5 + (1 : Int32)) (fun v10 => (im_X5_draw_L66 v1 f4 n_this_square n_this_row n v10 f9))))
def im_X5_draw_L7 (K3 : Int32 → (Nat → Int32) → Option (Int32 × (Nat → Int32) × (Nat → Int32))) (i_this_kind : Int32) (i_this_symbols : Int32) (n_this_square : Nat) (n_this_word : Nat) (f_this_word : Nat → Int32) : Nat → Int32 → Int32 → Int32 → (Nat → Int32) → Option (Int32 × (Nat → Int32) × (Nat → Int32))
  | 0, _, _, _, _ => none
  | n + 1, v11, v12, v13, f14 => if (4 : Int32) ≤ v13 then (K3 v11 f14) else im_j3 (fun (v16 : Int32) (v17 : Int32) (f18 : Nat → Int32) => im_j2 (fun (v20 : Int32) (v21 : Int32) => im_lt (v13 + (1 : Int32)) (fun v23 => (im_X5_draw_L7 K3 i_this_kind i_this_symbols n_this_square n_this_word f_this_word n v20 v21 v23 f18))) (fun K22 => if v12 ≤ v16 then (K22 v17 v12) else (K22 v17 v16))) (fun K19 => im_b1 (im_X5_paint v13 i_this_kind i_this_symbols n_this_square n_this_word f14 f_this_word) (fun f24 => im_b1 (im_X5_penalty n_this_square f24) (fun v25 => if v12 ≤ v25 then (K19 v25 v11 f24) else (K19 v25 v13 f24))))
def im_X5_draw (i_this_kind : Int32) (i_this_symbols : Int32) (i_this_mask : Int32) (n_this_row : Nat) (n_this_square : Nat) (n_this_word : Nat) (f_this_row : Nat → Int32) (f_this_square : Nat → Int32) (f_this_word : Nat → Int32) : Option (Int32 × (Nat → Int32) × (Nat → Int32)) := im_j2 (fun (v1 : Int32) (f2 : Nat → Int32) => im_b1 (im_X5_paint v1 i_this_kind i_this_symbols n_this_square n_this_word f2 f_this_word) (fun f4 => (im_X5_draw_L66 v1 f4 n_this_square n_this_row 5000 (0 : Int32) f_this_row))) (fun K3 => (im_X5_draw_L7 K3 i_this_kind i_this_symbols n_this_square n_this_word f_this_word 5000 (0 : Int32) (100000 : Int32) (0 : Int32) f_this_square))
abbrev rm_X5_draw : Room := { frames := 3, cells := 0, slots := 0, locals := 66 }
theorem kc_X5_draw_133 : Cond.constant RX5 133 (100000) ∈ wsX5_draw := by decide +kernel
theorem hn_X5_draw_X5 : ∀ w ∈ wsX50, w ∈ wsX5_draw := by decide +kernel
theorem fl_X5_draw_34 : Cond.fieldLink RX5 34 "BarCodesModel" "mask" "I" ∈ wsX5_draw := by decide +kernel
theorem fl_X5_draw_21 : Cond.fieldLink RX5 21 "BarCodesModel" "row" "[I" ∈ wsX5_draw := by decide +kernel
theorem fl_X5_draw_49 : Cond.fieldLink RX5 49 "BarCodesModel" "square" "[I" ∈ wsX5_draw := by decide +kernel
set_option maxHeartbeats 4000000 in
set_option maxRecDepth 100000 in
theorem c_X5_draw (l : Launch) (dC : Nat → ClassId) (dI : Nat → Nat → Nat) (cI cJ cZ : ClassId) (sz : Nat) (a_this a_this_bits a_this_values a_this_has a_this_row a_this_seen a_this_told a_this_word a_this_gone a_this_lines a_this_places a_this_square : Nat) (i_this_thrown i_this_kind i_this_form i_this_fields i_this_checks i_this_symbols i_this_size i_this_many i_this_right i_this_mended i_this_mask i_this_turned : Int32) (n_this_row n_this_square n_this_word : Nat) (f_this_row : Nat → Int32) (f_this_square : Nat → Int32) (f_this_word : Nat → Int32) {r : Int32 × (Nat → Int32) × (Nat → Int32)} (h : im_X5_draw i_this_kind i_this_symbols i_this_mask n_this_row n_this_square n_this_word f_this_row f_this_square f_this_word = some r) : Met l yX5_draw wsX5_draw rm_X5_draw (va_Pc [.ref a_this] (fun U => U.heap.size = sz ∧ va_P (dC, dI) vwCl [(a_this, .inr (4, [.int i_this_thrown, .int i_this_kind, .int i_this_form, .ref a_this_bits, .ref a_this_values, .ref a_this_has, .int i_this_fields, .int i_this_checks, .int i_this_symbols, .ref a_this_row, .int i_this_size, .ref a_this_seen, .int i_this_many, .ref a_this_told, .int i_this_right, .int i_this_mended, .int i_this_mask, .int i_this_turned, .ref a_this_word, .ref a_this_gone, .ref a_this_lines, .ref a_this_places, .ref a_this_square])), (a_this_row, .inl (cI, n_this_row, .inl f_this_row)), (a_this_square, .inl (cI, n_this_square, .inl f_this_square)), (a_this_word, .inl (cI, n_this_word, .inl f_this_word))] U.heap ∧ va_K (dC, dI) vwCl [(cI, .int), (cJ, .long), (cZ, .boolean)] U ∧ va_D (fun _ => True) [(a_this, .inr (4, [.int i_this_thrown, .int i_this_kind, .int i_this_form, .ref a_this_bits, .ref a_this_values, .ref a_this_has, .int i_this_fields, .int i_this_checks, .int i_this_symbols, .ref a_this_row, .int i_this_size, .ref a_this_seen, .int i_this_many, .ref a_this_told, .int i_this_right, .int i_this_mended, .int i_this_mask, .int i_this_turned, .ref a_this_word, .ref a_this_gone, .ref a_this_lines, .ref a_this_places, .ref a_this_square])), (a_this_row, .inl (cI, n_this_row, .inl f_this_row)), (a_this_square, .inl (cI, n_this_square, .inl f_this_square)), (a_this_word, .inl (cI, n_this_word, .inl f_this_word))])) (va_Qv (S := Int32 × (Nat → Int32) × (Nat → Int32)) (fun u9 => u9 = r) (fun u9 t9 => va_P (dC, dI) vwCl [(a_this, .inr (4, [.int i_this_thrown, .int i_this_kind, .int i_this_form, .ref a_this_bits, .ref a_this_values, .ref a_this_has, .int i_this_fields, .int i_this_checks, .int i_this_symbols, .ref a_this_row, .int i_this_size, .ref a_this_seen, .int i_this_many, .ref a_this_told, .int i_this_right, .int i_this_mended, .int (u9.1), .int i_this_turned, .ref a_this_word, .ref a_this_gone, .ref a_this_lines, .ref a_this_places, .ref a_this_square])), (a_this_row, .inl (cI, n_this_row, .inl (u9.2.1))), (a_this_square, .inl (cI, n_this_square, .inl (u9.2.2))), (a_this_word, .inl (cI, n_this_word, .inl f_this_word))] t9.heap ∧ va_K (dC, dI) vwCl [(cI, .int), (cJ, .long), (cZ, .boolean)] t9 ∧ va_D (va_A [(a_this, .inr (4, [.int i_this_thrown, .int i_this_kind, .int i_this_form, .ref a_this_bits, .ref a_this_values, .ref a_this_has, .int i_this_fields, .int i_this_checks, .int i_this_symbols, .ref a_this_row, .int i_this_size, .ref a_this_seen, .int i_this_many, .ref a_this_told, .int i_this_right, .int i_this_mended, .int i_this_mask, .int i_this_turned, .ref a_this_word, .ref a_this_gone, .ref a_this_lines, .ref a_this_places, .ref a_this_square])), (a_this_row, .inl (cI, n_this_row, .inl f_this_row)), (a_this_square, .inl (cI, n_this_square, .inl f_this_square)), (a_this_word, .inl (cI, n_this_word, .inl f_this_word))] sz) [(a_this, .inr (4, [.int i_this_thrown, .int i_this_kind, .int i_this_form, .ref a_this_bits, .ref a_this_values, .ref a_this_has, .int i_this_fields, .int i_this_checks, .int i_this_symbols, .ref a_this_row, .int i_this_size, .ref a_this_seen, .int i_this_many, .ref a_this_told, .int i_this_right, .int i_this_mended, .int (u9.1), .int i_this_turned, .ref a_this_word, .ref a_this_gone, .ref a_this_lines, .ref a_this_places, .ref a_this_square])), (a_this_row, .inl (cI, n_this_row, .inl (u9.2.1))), (a_this_square, .inl (cI, n_this_square, .inl (u9.2.2))), (a_this_word, .inl (cI, n_this_word, .inl f_this_word))]) (va_A [(a_this, .inr (4, [.int i_this_thrown, .int i_this_kind, .int i_this_form, .ref a_this_bits, .ref a_this_values, .ref a_this_has, .int i_this_fields, .int i_this_checks, .int i_this_symbols, .ref a_this_row, .int i_this_size, .ref a_this_seen, .int i_this_many, .ref a_this_told, .int i_this_right, .int i_this_mended, .int i_this_mask, .int i_this_turned, .ref a_this_word, .ref a_this_gone, .ref a_this_lines, .ref a_this_places, .ref a_this_square])), (a_this_row, .inl (cI, n_this_row, .inl f_this_row)), (a_this_square, .inl (cI, n_this_square, .inl f_this_square)), (a_this_word, .inl (cI, n_this_word, .inl f_this_word))] sz)) 0 0 (va_A [(a_this, .inr (4, [.int i_this_thrown, .int i_this_kind, .int i_this_form, .ref a_this_bits, .ref a_this_values, .ref a_this_has, .int i_this_fields, .int i_this_checks, .int i_this_symbols, .ref a_this_row, .int i_this_size, .ref a_this_seen, .int i_this_many, .ref a_this_told, .int i_this_right, .int i_this_mended, .int i_this_mask, .int i_this_turned, .ref a_this_word, .ref a_this_gone, .ref a_this_lines, .ref a_this_places, .ref a_this_square])), (a_this_row, .inl (cI, n_this_row, .inl f_this_row)), (a_this_square, .inl (cI, n_this_square, .inl f_this_square)), (a_this_word, .inl (cI, n_this_word, .inl f_this_word))] sz) := by
  refine Met.ofW (cc := cX5_draw) (maxL := 5) (ret := none) (by decide) rfl ?_
  intro p e s m args below meth c s₁ B hml hv
  obtain ⟨eargs, hsz, hP, hK, hD0⟩ := hv
  have hx := B.exec
  have hb := B.bytes
  have hr := B.returns
  have hts := atoms_spec (ws := wsX5_draw) B.pre
  have hown : s.vm.findClass RX5 = some m.cls := findClass_of_methodNamed B.named
  have hlocks := B.notSynchronized
  refine im_Q (fun Q eQ => ?_)
  subst hsz
  have hD := hD0.self (sz := s.heap.size)
  generalize hAe : va_A [(a_this, .inr (4, [.int i_this_thrown, .int i_this_kind, .int i_this_form, .ref a_this_bits, .ref a_this_values, .ref a_this_has, .int i_this_fields, .int i_this_checks, .int i_this_symbols, .ref a_this_row, .int i_this_size, .ref a_this_seen, .int i_this_many, .ref a_this_told, .int i_this_right, .int i_this_mended, .int i_this_mask, .int i_this_turned, .ref a_this_word, .ref a_this_gone, .ref a_this_lines, .ref a_this_places, .ref a_this_square])), (a_this_row, .inl (cI, n_this_row, .inl f_this_row)), (a_this_square, .inl (cI, n_this_square, .inl f_this_square)), (a_this_word, .inl (cI, n_this_word, .inl f_this_word))] s.heap.size = A at hD eQ
  have hA : ∀ q : Nat, s.heap.size ≤ q → A q := fun q h => by rw [← hAe]; exact Or.inr h
  have hS : va_S A s.heap s.heap [] := va_S.rf
  have hl := lv_entry [.ref a_this] (n := 5) (Nat.le_of_ble_eq_true rfl)
  rw [show entryFrame m args 5 = entryFrame m ([.ref a_this] : List Value).toArray 5 by rw [eargs], lg_entry_eq]
  generalize (lg_sl ([.ref a_this]) ++ List.replicate (5 - (lg_sl ([.ref a_this])).length) Slot.unset).toArray = ls at hl ⊢
  have hl : lv_has ls 5 [(0, .ref a_this)] := hl
  rw [im_X5_draw] at h
  refine lv_iconst (v := (0 : Int32)) hx hb dX5_draw_0 (by decide) ?_
  refine lv_istore_n (lv' := [(1, .int (0 : Int32)), (0, .ref a_this)]) hx hb dX5_draw_1 rfl hl (by decide) rfl (fun ls hl => ?_)
  refine lv_ldc (v := (100000 : Int32)) hx hb hown (hts _ kc_X5_draw_133) dX5_draw_2 ?_
  refine lv_istore_n (lv' := [(2, .int (100000 : Int32)), (1, .int (0 : Int32)), (0, .ref a_this)]) hx hb dX5_draw_4 rfl hl (by decide) rfl (fun ls hl => ?_)
  refine lv_iconst (v := (0 : Int32)) hx hb dX5_draw_5 (by decide) ?_
  refine lv_istore_n (lv' := [(3, .int (0 : Int32)), (2, .int (100000 : Int32)), (1, .int (0 : Int32)), (0, .ref a_this)]) hx hb dX5_draw_6 rfl hl (by decide) rfl (fun ls hl => ?_)
  refine im_j2_u (P := fun v1 f2 => ∀ (H : Heap) (locs : List Loc) (ls : Array Slot), va_P (dC, dI) vwCl [(a_this, .inr (4, [.int i_this_thrown, .int i_this_kind, .int i_this_form, .ref a_this_bits, .ref a_this_values, .ref a_this_has, .int i_this_fields, .int i_this_checks, .int i_this_symbols, .ref a_this_row, .int i_this_size, .ref a_this_seen, .int i_this_many, .ref a_this_told, .int i_this_right, .int i_this_mended, .int i_this_mask, .int i_this_turned, .ref a_this_word, .ref a_this_gone, .ref a_this_lines, .ref a_this_places, .ref a_this_square])), (a_this_row, .inl (cI, n_this_row, .inl f_this_row)), (a_this_square, .inl (cI, n_this_square, .inl f2)), (a_this_word, .inl (cI, n_this_word, .inl f_this_word))] H → va_D A [(a_this, .inr (4, [.int i_this_thrown, .int i_this_kind, .int i_this_form, .ref a_this_bits, .ref a_this_values, .ref a_this_has, .int i_this_fields, .int i_this_checks, .int i_this_symbols, .ref a_this_row, .int i_this_size, .ref a_this_seen, .int i_this_many, .ref a_this_told, .int i_this_right, .int i_this_mended, .int i_this_mask, .int i_this_turned, .ref a_this_word, .ref a_this_gone, .ref a_this_lines, .ref a_this_places, .ref a_this_square])), (a_this_row, .inl (cI, n_this_row, .inl f_this_row)), (a_this_square, .inl (cI, n_this_square, .inl f2)), (a_this_word, .inl (cI, n_this_word, .inl f_this_word))] → va_S A s.heap H locs → lv_has ls 5 [(0, .ref a_this), (1, .int v1)] → W p l e (headSpec wsX5_draw rm_X5_draw).room s m args below meth c H locs 0 0 Q (F0 m 54 ls [])) h (fun v1 f2 h H locs ls hP hD hS hl => ?_) (fun K3 J3 h => ?_)
  · refine lv_aload_n hx hb dX5_draw_54 rfl (lv_at hl 0 rfl) ?_
    refine lv_iload_n hx hb dX5_draw_55 rfl (lv_at hl 1 rfl) ?_
    obtain ⟨f4, y56, h⟩ := im_b1_u h
    have hPc := hP.sub (ws' := [(a_this, .inr (4, [.int i_this_thrown, .int i_this_kind, .int i_this_form, .ref a_this_bits, .ref a_this_values, .ref a_this_has, .int i_this_fields, .int i_this_checks, .int i_this_symbols, .ref a_this_row, .int i_this_size, .ref a_this_seen, .int i_this_many, .ref a_this_told, .int i_this_right, .int i_this_mended, .int i_this_mask, .int i_this_turned, .ref a_this_word, .ref a_this_gone, .ref a_this_lines, .ref a_this_places, .ref a_this_square])), (a_this_square, .inl (cI, n_this_square, .inl f2)), (a_this_word, .inl (cI, n_this_word, .inl f_this_word))]) [0, 2, 3] rfl
    have hDc := hD.sub (ws' := [(a_this, .inr (4, [.int i_this_thrown, .int i_this_kind, .int i_this_form, .ref a_this_bits, .ref a_this_values, .ref a_this_has, .int i_this_fields, .int i_this_checks, .int i_this_symbols, .ref a_this_row, .int i_this_size, .ref a_this_seen, .int i_this_many, .ref a_this_told, .int i_this_right, .int i_this_mended, .int i_this_mask, .int i_this_turned, .ref a_this_word, .ref a_this_gone, .ref a_this_lines, .ref a_this_places, .ref a_this_square])), (a_this_square, .inl (cI, n_this_square, .inl f2)), (a_this_word, .inl (cI, n_this_word, .inl f_this_word))]) [0, 2, 3] (by decide) rfl
    have hFc := va_free (wc := [(a_this, .inr (4, [.int i_this_thrown, .int i_this_kind, .int i_this_form, .ref a_this_bits, .ref a_this_values, .ref a_this_has, .int i_this_fields, .int i_this_checks, .int i_this_symbols, .ref a_this_row, .int i_this_size, .ref a_this_seen, .int i_this_many, .ref a_this_told, .int i_this_right, .int i_this_mended, .int i_this_mask, .int i_this_turned, .ref a_this_word, .ref a_this_gone, .ref a_this_lines, .ref a_this_places, .ref a_this_square])), (a_this_square, .inl (cI, n_this_square, .inl f2)), (a_this_word, .inl (cI, n_this_word, .inl f_this_word))]) hD hS hA [0, 2, 3] rfl
    refine va_callv (va_runV (As := [.int v1]) (rest := []) ⟨hx, hb, hml, hown, hts⟩ (c_X5_paint l dC dI cI cJ cZ H.size a_this a_this_bits a_this_values a_this_has a_this_row a_this_seen a_this_told a_this_word a_this_gone a_this_lines a_this_places a_this_square i_this_thrown i_this_kind i_this_form i_this_fields i_this_checks i_this_symbols i_this_size i_this_many i_this_right i_this_mended i_this_mask i_this_turned n_this_square n_this_word f2 f_this_word v1 y56) (cwV 1 hts gX5_draw_X5_paint rfl rfl rfl (by decide +kernel) ⟨Nat.le_of_ble_eq_true rfl, Nat.le_of_ble_eq_true rfl⟩) ⟨fun a U g mk q => by obtain ⟨q0, q1, qP, qK, qD⟩ := q; exact ⟨q0, q1, qP, va_K.moved (u := U) (U := U.calling g mk a) (Vm.Alike.refl U.vm) qK, qD⟩, va_recv hK hPc (ci := 4) (q0 := 0) rfl rfl, fun U hU hW => ⟨rfl, by rw [hU], by rw [hU]; exact hPc, va_K.moved hW.alike hK, hDc.weaken (fun _ _ _ _ => trivial)⟩⟩ rfl rfl hl.1 rfl (lv_room (Nat.le_of_ble_eq_true rfl)) dX5_draw_56 ⟨Nat.zero_le _, Nat.zero_le _⟩) hS (fun q _ h => hFc q h) hFc (fun u9 t9 H1 locs ht9 hvm9 hw9 hB9 hz9 hk9 hS => ?_)
    obtain ⟨hP1, hK1, hD1⟩ := hB9
    rw [ht9] at hP1
    have hw9 := hw9.symm
    subst hw9
    obtain ⟨hP, hD⟩ := va_join (wr := [(a_this_row, .inl (cI, n_this_row, .inl f_this_row))]) (w1 := [(a_this, .inr (4, [.int i_this_thrown, .int i_this_kind, .int i_this_form, .ref a_this_bits, .ref a_this_values, .ref a_this_has, .int i_this_fields, .int i_this_checks, .int i_this_symbols, .ref a_this_row, .int i_this_size, .ref a_this_seen, .int i_this_many, .ref a_this_told, .int i_this_right, .int i_this_mended, .int i_this_mask, .int i_this_turned, .ref a_this_word, .ref a_this_gone, .ref a_this_lines, .ref a_this_places, .ref a_this_square])), (a_this_square, .inl (cI, n_this_square, .inl f4)), (a_this_word, .inl (cI, n_this_word, .inl f_this_word))]) hP hD [0, 2, 3] [1] rfl rfl (by decide) (by decide) hk9 hFc hP1 hD1
    generalize H1 = H at hP hS ⊢
    have hP := hP.sub (ws' := [(a_this, .inr (4, [.int i_this_thrown, .int i_this_kind, .int i_this_form, .ref a_this_bits, .ref a_this_values, .ref a_this_has, .int i_this_fields, .int i_this_checks, .int i_this_symbols, .ref a_this_row, .int i_this_size, .ref a_this_seen, .int i_this_many, .ref a_this_told, .int i_this_right, .int i_this_mended, .int i_this_mask, .int i_this_turned, .ref a_this_word, .ref a_this_gone, .ref a_this_lines, .ref a_this_places, .ref a_this_square])), (a_this_row, .inl (cI, n_this_row, .inl f_this_row)), (a_this_square, .inl (cI, n_this_square, .inl f4)), (a_this_word, .inl (cI, n_this_word, .inl f_this_word))]) [1, 0, 2, 3] rfl
    have hD := hD.sub (ws' := [(a_this, .inr (4, [.int i_this_thrown, .int i_this_kind, .int i_this_form, .ref a_this_bits, .ref a_this_values, .ref a_this_has, .int i_this_fields, .int i_this_checks, .int i_this_symbols, .ref a_this_row, .int i_this_size, .ref a_this_seen, .int i_this_many, .ref a_this_told, .int i_this_right, .int i_this_mended, .int i_this_mask, .int i_this_turned, .ref a_this_word, .ref a_this_gone, .ref a_this_lines, .ref a_this_places, .ref a_this_square])), (a_this_row, .inl (cI, n_this_row, .inl f_this_row)), (a_this_square, .inl (cI, n_this_square, .inl f4)), (a_this_word, .inl (cI, n_this_word, .inl f_this_word))]) [1, 0, 2, 3] (by decide) rfl
    refine lv_aload_n hx hb dX5_draw_59 rfl (lv_at hl 0 rfl) ?_
    refine lv_iload_n hx hb dX5_draw_60 rfl (lv_at hl 1 rfl) ?_
    refine va_put (D := (dC, dI)) (ci := 4) (v := .int v1) (ty := .int) (C := RX5) (T := TX5) (N := 23) hx hb hts hn_X5_draw_X5 tyX5 tyX5_ok nmX5 hown hK hP hD hS 0 rfl rfl 16 (by decide) (hts _ fl_X5_draw_34) (fun _ h9 => h9) rfl (by decide +kernel) rfl rfl (Nat.le_of_ble_eq_true rfl) dX5_draw_61 (fun H locs hP hD hS => ?_)
    have hP : va_P (dC, dI) vwCl [(a_this, .inr (4, [.int i_this_thrown, .int i_this_kind, .int i_this_form, .ref a_this_bits, .ref a_this_values, .ref a_this_has, .int i_this_fields, .int i_this_checks, .int i_this_symbols, .ref a_this_row, .int i_this_size, .ref a_this_seen, .int i_this_many, .ref a_this_told, .int i_this_right, .int i_this_mended, .int v1, .int i_this_turned, .ref a_this_word, .ref a_this_gone, .ref a_this_lines, .ref a_this_places, .ref a_this_square])), (a_this_row, .inl (cI, n_this_row, .inl f_this_row)), (a_this_square, .inl (cI, n_this_square, .inl f4)), (a_this_word, .inl (cI, n_this_word, .inl f_this_word))] H := hP
    have hD : va_D A [(a_this, .inr (4, [.int i_this_thrown, .int i_this_kind, .int i_this_form, .ref a_this_bits, .ref a_this_values, .ref a_this_has, .int i_this_fields, .int i_this_checks, .int i_this_symbols, .ref a_this_row, .int i_this_size, .ref a_this_seen, .int i_this_many, .ref a_this_told, .int i_this_right, .int i_this_mended, .int v1, .int i_this_turned, .ref a_this_word, .ref a_this_gone, .ref a_this_lines, .ref a_this_places, .ref a_this_square])), (a_this_row, .inl (cI, n_this_row, .inl f_this_row)), (a_this_square, .inl (cI, n_this_square, .inl f4)), (a_this_word, .inl (cI, n_this_word, .inl f_this_word))] := hD
    refine lv_iconst (v := (0 : Int32)) hx hb dX5_draw_64 (by decide) ?_
    refine lv_istore_n (lv' := [(3, .int (0 : Int32)), (0, .ref a_this), (1, .int v1)]) hx hb dX5_draw_65 rfl hl (by decide) rfl (fun ls hl => ?_)
    have Lp7 : ∀ (n : Nat) (v5 : Int32) (f6 : Nat → Int32), im_X5_draw_L66 v1 f4 n_this_square n_this_row n v5 f6 = some r → ∀ (H : Heap) (locs : List Loc) (ls : Array Slot), va_P (dC, dI) vwCl [(a_this, .inr (4, [.int i_this_thrown, .int i_this_kind, .int i_this_form, .ref a_this_bits, .ref a_this_values, .ref a_this_has, .int i_this_fields, .int i_this_checks, .int i_this_symbols, .ref a_this_row, .int i_this_size, .ref a_this_seen, .int i_this_many, .ref a_this_told, .int i_this_right, .int i_this_mended, .int v1, .int i_this_turned, .ref a_this_word, .ref a_this_gone, .ref a_this_lines, .ref a_this_places, .ref a_this_square])), (a_this_row, .inl (cI, n_this_row, .inl f6)), (a_this_square, .inl (cI, n_this_square, .inl f4)), (a_this_word, .inl (cI, n_this_word, .inl f_this_word))] H → va_D A [(a_this, .inr (4, [.int i_this_thrown, .int i_this_kind, .int i_this_form, .ref a_this_bits, .ref a_this_values, .ref a_this_has, .int i_this_fields, .int i_this_checks, .int i_this_symbols, .ref a_this_row, .int i_this_size, .ref a_this_seen, .int i_this_many, .ref a_this_told, .int i_this_right, .int i_this_mended, .int v1, .int i_this_turned, .ref a_this_word, .ref a_this_gone, .ref a_this_lines, .ref a_this_places, .ref a_this_square])), (a_this_row, .inl (cI, n_this_row, .inl f6)), (a_this_square, .inl (cI, n_this_square, .inl f4)), (a_this_word, .inl (cI, n_this_word, .inl f_this_word))] → va_S A s.heap H locs → lv_has ls 5 [(0, .ref a_this), (3, .int v5)] → W p l e (headSpec wsX5_draw rm_X5_draw).room s m args below meth c H locs 0 0 Q (F0 m 66 ls []) := by
      intro n
      induction n with
      | zero => intro v5 f6 h; rw [im_X5_draw_L66] at h; cases h
      | succ n ih =>
        intro v5 f6 h H locs ls hP hD hS hl
        rw [im_X5_draw_L66] at h
        refine lv_iload_n hx hb dX5_draw_66 rfl (lv_at hl 1 rfl) ?_
        refine lv_sipush (v := (144 : Int32)) hx hb dX5_draw_67 (by decide) ?_
        refine lv_icmp_ge (tgt := 91) hx hb dX5_draw_70 (by decide) (fun c70 => ?_) (fun c70 => ?_)
        · replace h := im_t c70 h
          rw [eQ]
          exact W.vret hx hb hr (fun t ht hW => ⟨⟨(v1, f6, f4), rfl, Option.some.inj h, by rw [ht]; exact hP, va_K.moved hW.alike hK, hD⟩, hS.F ht⟩) hS.2.2 dX5_draw_91
        · replace h := im_f c70 h
          refine lv_aload_n hx hb dX5_draw_73 rfl (lv_at hl 0 rfl) ?_
          refine va_get (D := (dC, dI)) (ci := 4) (v := .ref a_this_row) (C := RX5) (T := TX5) (N := 23) hx hb hts hn_X5_draw_X5 hown hK hP 0 rfl rfl 9 (by decide) (hts _ fl_X5_draw_21) (fun _ h9 => h9) rfl dX5_draw_74 ?_
          refine lv_iload_n hx hb dX5_draw_77 rfl (lv_at hl 1 rfl) ?_
          refine lv_aload_n hx hb dX5_draw_78 rfl (lv_at hl 0 rfl) ?_
          refine va_get (D := (dC, dI)) (ci := 4) (v := .ref a_this_square) (C := RX5) (T := TX5) (N := 23) hx hb hts hn_X5_draw_X5 hown hK hP 0 rfl rfl 22 (by decide) (hts _ fl_X5_draw_49) (fun _ h9 => h9) rfl dX5_draw_79 ?_
          refine lv_iload_n hx hb dX5_draw_82 rfl (lv_at hl 1 rfl) ?_
          obtain ⟨q83, h⟩ := im_ld_u h
          refine va_iald hx hb hK hP 2 0 rfl rfl q83 dX5_draw_83 ?_
          refine lv_topi (fun v8 ev8 => ?_)
          replace h := h v8 ev8
          obtain ⟨q84, h⟩ := im_st_u h
          refine va_iast hx hb hK hP hD hS 1 0 rfl rfl q84 dX5_draw_84 (fun H locs hP hD hS => ?_)
          obtain ⟨f9, ef9⟩ : ∃ g : Nat → Int32, g = upd f6 v5.toNatClampNeg v8 := ⟨_, rfl⟩
          replace h := h f9 ef9
          rw [← ef9] at hP hD
          have hP : va_P (dC, dI) vwCl [(a_this, .inr (4, [.int i_this_thrown, .int i_this_kind, .int i_this_form, .ref a_this_bits, .ref a_this_values, .ref a_this_has, .int i_this_fields, .int i_this_checks, .int i_this_symbols, .ref a_this_row, .int i_this_size, .ref a_this_seen, .int i_this_many, .ref a_this_told, .int i_this_right, .int i_this_mended, .int v1, .int i_this_turned, .ref a_this_word, .ref a_this_gone, .ref a_this_lines, .ref a_this_places, .ref a_this_square])), (a_this_row, .inl (cI, n_this_row, .inl f9)), (a_this_square, .inl (cI, n_this_square, .inl f4)), (a_this_word, .inl (cI, n_this_word, .inl f_this_word))] H := hP
          have hD : va_D A [(a_this, .inr (4, [.int i_this_thrown, .int i_this_kind, .int i_this_form, .ref a_this_bits, .ref a_this_values, .ref a_this_has, .int i_this_fields, .int i_this_checks, .int i_this_symbols, .ref a_this_row, .int i_this_size, .ref a_this_seen, .int i_this_many, .ref a_this_told, .int i_this_right, .int i_this_mended, .int v1, .int i_this_turned, .ref a_this_word, .ref a_this_gone, .ref a_this_lines, .ref a_this_places, .ref a_this_square])), (a_this_row, .inl (cI, n_this_row, .inl f9)), (a_this_square, .inl (cI, n_this_square, .inl f4)), (a_this_word, .inl (cI, n_this_word, .inl f_this_word))] := hD
          obtain ⟨v10, ev10⟩ : ∃ y : Int32, y = (v5 + (1 : Int32)) := ⟨_, rfl⟩
          replace h := im_lt_u h v10 ev10
          refine lv_iinc (v := v10) (lv' := [(3, .int v10), (0, .ref a_this)]) hx hb dX5_draw_85 hl (k := 1) rfl (by rw [ev10]; rfl) (by decide) rfl (fun ls hl => ?_)
          refine lv_goto (tgt := 66) hx hb dX5_draw_88 (by decide) ?_
          exact ih v10 f9 h _ _ _ hP hD hS (lv_sub hl [1, 0] rfl)
    exact Lp7 5000 (0 : Int32) f_this_row h _ _ _ hP hD hS (lv_sub hl [1, 0] rfl)
  · have Lp15 : ∀ (n : Nat) (v11 : Int32) (v12 : Int32) (v13 : Int32) (f14 : Nat → Int32), im_X5_draw_L7 K3 i_this_kind i_this_symbols n_this_square n_this_word f_this_word n v11 v12 v13 f14 = some r → ∀ (H : Heap) (locs : List Loc) (ls : Array Slot), va_P (dC, dI) vwCl [(a_this, .inr (4, [.int i_this_thrown, .int i_this_kind, .int i_this_form, .ref a_this_bits, .ref a_this_values, .ref a_this_has, .int i_this_fields, .int i_this_checks, .int i_this_symbols, .ref a_this_row, .int i_this_size, .ref a_this_seen, .int i_this_many, .ref a_this_told, .int i_this_right, .int i_this_mended, .int i_this_mask, .int i_this_turned, .ref a_this_word, .ref a_this_gone, .ref a_this_lines, .ref a_this_places, .ref a_this_square])), (a_this_row, .inl (cI, n_this_row, .inl f_this_row)), (a_this_square, .inl (cI, n_this_square, .inl f14)), (a_this_word, .inl (cI, n_this_word, .inl f_this_word))] H → va_D A [(a_this, .inr (4, [.int i_this_thrown, .int i_this_kind, .int i_this_form, .ref a_this_bits, .ref a_this_values, .ref a_this_has, .int i_this_fields, .int i_this_checks, .int i_this_symbols, .ref a_this_row, .int i_this_size, .ref a_this_seen, .int i_this_many, .ref a_this_told, .int i_this_right, .int i_this_mended, .int i_this_mask, .int i_this_turned, .ref a_this_word, .ref a_this_gone, .ref a_this_lines, .ref a_this_places, .ref a_this_square])), (a_this_row, .inl (cI, n_this_row, .inl f_this_row)), (a_this_square, .inl (cI, n_this_square, .inl f14)), (a_this_word, .inl (cI, n_this_word, .inl f_this_word))] → va_S A s.heap H locs → lv_has ls 5 [(0, .ref a_this), (1, .int v11), (2, .int v12), (3, .int v13)] → W p l e (headSpec wsX5_draw rm_X5_draw).room s m args below meth c H locs 0 0 Q (F0 m 7 ls []) := by
      intro n
      induction n with
      | zero => intro v11 v12 v13 f14 h; rw [im_X5_draw_L7] at h; cases h
      | succ n ih =>
        intro v11 v12 v13 f14 h H locs ls hP hD hS hl
        rw [im_X5_draw_L7] at h
        refine lv_iload_n hx hb dX5_draw_7 rfl (lv_at hl 3 rfl) ?_
        refine lv_iconst (v := (4 : Int32)) hx hb dX5_draw_8 (by decide) ?_
        refine lv_icmp_ge (tgt := 54) hx hb dX5_draw_9 (by decide) (fun c9 => ?_) (fun c9 => ?_)
        · replace h := im_t c9 h
          exact J3 v11 f14 h _ _ _ hP hD hS (lv_sub hl [0, 1] rfl)
        · replace h := im_f c9 h
          refine im_j3_u (P := fun v16 v17 f18 => ∀ (H : Heap) (locs : List Loc) (ls : Array Slot), va_P (dC, dI) vwCl [(a_this, .inr (4, [.int i_this_thrown, .int i_this_kind, .int i_this_form, .ref a_this_bits, .ref a_this_values, .ref a_this_has, .int i_this_fields, .int i_this_checks, .int i_this_symbols, .ref a_this_row, .int i_this_size, .ref a_this_seen, .int i_this_many, .ref a_this_told, .int i_this_right, .int i_this_mended, .int i_this_mask, .int i_this_turned, .ref a_this_word, .ref a_this_gone, .ref a_this_lines, .ref a_this_places, .ref a_this_square])), (a_this_row, .inl (cI, n_this_row, .inl f_this_row)), (a_this_square, .inl (cI, n_this_square, .inl f18)), (a_this_word, .inl (cI, n_this_word, .inl f_this_word))] H → va_D A [(a_this, .inr (4, [.int i_this_thrown, .int i_this_kind, .int i_this_form, .ref a_this_bits, .ref a_this_values, .ref a_this_has, .int i_this_fields, .int i_this_checks, .int i_this_symbols, .ref a_this_row, .int i_this_size, .ref a_this_seen, .int i_this_many, .ref a_this_told, .int i_this_right, .int i_this_mended, .int i_this_mask, .int i_this_turned, .ref a_this_word, .ref a_this_gone, .ref a_this_lines, .ref a_this_places, .ref a_this_square])), (a_this_row, .inl (cI, n_this_row, .inl f_this_row)), (a_this_square, .inl (cI, n_this_square, .inl f18)), (a_this_word, .inl (cI, n_this_word, .inl f_this_word))] → va_S A s.heap H locs → lv_has ls 5 [(0, .ref a_this), (2, .int v12), (3, .int v13), (4, .int v16)] → W p l e (headSpec wsX5_draw rm_X5_draw).room s m args below meth c H locs 0 0 Q (F0 m 34 ls [.int v17])) h (fun v16 v17 f18 h H locs ls hP hD hS hl => ?_) (fun K19 J19 h => ?_)
          · refine im_j2_u (P := fun v20 v21 => ∀ (H : Heap) (locs : List Loc) (ls : Array Slot), va_P (dC, dI) vwCl [(a_this, .inr (4, [.int i_this_thrown, .int i_this_kind, .int i_this_form, .ref a_this_bits, .ref a_this_values, .ref a_this_has, .int i_this_fields, .int i_this_checks, .int i_this_symbols, .ref a_this_row, .int i_this_size, .ref a_this_seen, .int i_this_many, .ref a_this_told, .int i_this_right, .int i_this_mended, .int i_this_mask, .int i_this_turned, .ref a_this_word, .ref a_this_gone, .ref a_this_lines, .ref a_this_places, .ref a_this_square])), (a_this_row, .inl (cI, n_this_row, .inl f_this_row)), (a_this_square, .inl (cI, n_this_square, .inl f18)), (a_this_word, .inl (cI, n_this_word, .inl f_this_word))] H → va_D A [(a_this, .inr (4, [.int i_this_thrown, .int i_this_kind, .int i_this_form, .ref a_this_bits, .ref a_this_values, .ref a_this_has, .int i_this_fields, .int i_this_checks, .int i_this_symbols, .ref a_this_row, .int i_this_size, .ref a_this_seen, .int i_this_many, .ref a_this_told, .int i_this_right, .int i_this_mended, .int i_this_mask, .int i_this_turned, .ref a_this_word, .ref a_this_gone, .ref a_this_lines, .ref a_this_places, .ref a_this_square])), (a_this_row, .inl (cI, n_this_row, .inl f_this_row)), (a_this_square, .inl (cI, n_this_square, .inl f18)), (a_this_word, .inl (cI, n_this_word, .inl f_this_word))] → va_S A s.heap H locs → lv_has ls 5 [(0, .ref a_this), (1, .int v20), (3, .int v13)] → W p l e (headSpec wsX5_draw rm_X5_draw).room s m args below meth c H locs 0 0 Q (F0 m 47 ls [.int v21])) h (fun v20 v21 h H locs ls hP hD hS hl => ?_) (fun K22 J22 h => ?_)
            · refine lv_istore_n (lv' := [(2, .int v21), (0, .ref a_this), (1, .int v20), (3, .int v13)]) hx hb dX5_draw_47 rfl hl (by decide) rfl (fun ls hl => ?_)
              obtain ⟨v23, ev23⟩ : ∃ y : Int32, y = (v13 + (1 : Int32)) := ⟨_, rfl⟩
              replace h := im_lt_u h v23 ev23
              refine lv_iinc (v := v23) (lv' := [(3, .int v23), (2, .int v21), (0, .ref a_this), (1, .int v20)]) hx hb dX5_draw_48 hl (k := 3) rfl (by rw [ev23]; rfl) (by decide) rfl (fun ls hl => ?_)
              refine lv_goto (tgt := 7) hx hb dX5_draw_51 (by decide) ?_
              exact ih v20 v21 v23 f18 h _ _ _ hP hD hS (lv_sub hl [2, 3, 1, 0] rfl)
            · refine lv_istore_n (lv' := [(1, .int v17), (0, .ref a_this), (2, .int v12), (3, .int v13), (4, .int v16)]) hx hb dX5_draw_34 rfl hl (by decide) rfl (fun ls hl => ?_)
              refine lv_iload hx hb dX5_draw_35 (lv_at hl 4 rfl) ?_
              refine lv_iload_n hx hb dX5_draw_37 rfl (lv_at hl 2 rfl) ?_
              refine lv_icmp_ge (tgt := 46) hx hb dX5_draw_38 (by decide) (fun c38 => ?_) (fun c38 => ?_)
              · replace h := im_t c38 h
                refine lv_iload_n hx hb dX5_draw_46 rfl (lv_at hl 2 rfl) ?_
                exact J22 v17 v12 h _ _ _ hP hD hS (lv_sub hl [1, 0, 3] rfl)
              · replace h := im_f c38 h
                refine lv_iload hx hb dX5_draw_41 (lv_at hl 4 rfl) ?_
                refine lv_goto (tgt := 47) hx hb dX5_draw_43 (by decide) ?_
                exact J22 v17 v16 h _ _ _ hP hD hS (lv_sub hl [1, 0, 3] rfl)
          · refine lv_aload_n hx hb dX5_draw_12 rfl (lv_at hl 0 rfl) ?_
            refine lv_iload_n hx hb dX5_draw_13 rfl (lv_at hl 3 rfl) ?_
            obtain ⟨f24, y14, h⟩ := im_b1_u h
            have hPc := hP.sub (ws' := [(a_this, .inr (4, [.int i_this_thrown, .int i_this_kind, .int i_this_form, .ref a_this_bits, .ref a_this_values, .ref a_this_has, .int i_this_fields, .int i_this_checks, .int i_this_symbols, .ref a_this_row, .int i_this_size, .ref a_this_seen, .int i_this_many, .ref a_this_told, .int i_this_right, .int i_this_mended, .int i_this_mask, .int i_this_turned, .ref a_this_word, .ref a_this_gone, .ref a_this_lines, .ref a_this_places, .ref a_this_square])), (a_this_square, .inl (cI, n_this_square, .inl f14)), (a_this_word, .inl (cI, n_this_word, .inl f_this_word))]) [0, 2, 3] rfl
            have hDc := hD.sub (ws' := [(a_this, .inr (4, [.int i_this_thrown, .int i_this_kind, .int i_this_form, .ref a_this_bits, .ref a_this_values, .ref a_this_has, .int i_this_fields, .int i_this_checks, .int i_this_symbols, .ref a_this_row, .int i_this_size, .ref a_this_seen, .int i_this_many, .ref a_this_told, .int i_this_right, .int i_this_mended, .int i_this_mask, .int i_this_turned, .ref a_this_word, .ref a_this_gone, .ref a_this_lines, .ref a_this_places, .ref a_this_square])), (a_this_square, .inl (cI, n_this_square, .inl f14)), (a_this_word, .inl (cI, n_this_word, .inl f_this_word))]) [0, 2, 3] (by decide) rfl
            have hFc := va_free (wc := [(a_this, .inr (4, [.int i_this_thrown, .int i_this_kind, .int i_this_form, .ref a_this_bits, .ref a_this_values, .ref a_this_has, .int i_this_fields, .int i_this_checks, .int i_this_symbols, .ref a_this_row, .int i_this_size, .ref a_this_seen, .int i_this_many, .ref a_this_told, .int i_this_right, .int i_this_mended, .int i_this_mask, .int i_this_turned, .ref a_this_word, .ref a_this_gone, .ref a_this_lines, .ref a_this_places, .ref a_this_square])), (a_this_square, .inl (cI, n_this_square, .inl f14)), (a_this_word, .inl (cI, n_this_word, .inl f_this_word))]) hD hS hA [0, 2, 3] rfl
            refine va_callv (va_runV (As := [.int v13]) (rest := []) ⟨hx, hb, hml, hown, hts⟩ (c_X5_paint l dC dI cI cJ cZ H.size a_this a_this_bits a_this_values a_this_has a_this_row a_this_seen a_this_told a_this_word a_this_gone a_this_lines a_this_places a_this_square i_this_thrown i_this_kind i_this_form i_this_fields i_this_checks i_this_symbols i_this_size i_this_many i_this_right i_this_mended i_this_mask i_this_turned n_this_square n_this_word f14 f_this_word v13 y14) (cwV 1 hts gX5_draw_X5_paint rfl rfl rfl (by decide +kernel) ⟨Nat.le_of_ble_eq_true rfl, Nat.le_of_ble_eq_true rfl⟩) ⟨fun a U g mk q => by obtain ⟨q0, q1, qP, qK, qD⟩ := q; exact ⟨q0, q1, qP, va_K.moved (u := U) (U := U.calling g mk a) (Vm.Alike.refl U.vm) qK, qD⟩, va_recv hK hPc (ci := 4) (q0 := 0) rfl rfl, fun U hU hW => ⟨rfl, by rw [hU], by rw [hU]; exact hPc, va_K.moved hW.alike hK, hDc.weaken (fun _ _ _ _ => trivial)⟩⟩ rfl rfl hl.1 rfl (lv_room (Nat.le_of_ble_eq_true rfl)) dX5_draw_14 ⟨Nat.zero_le _, Nat.zero_le _⟩) hS (fun q _ h => hFc q h) hFc (fun u9 t9 H1 locs ht9 hvm9 hw9 hB9 hz9 hk9 hS => ?_)
            obtain ⟨hP1, hK1, hD1⟩ := hB9
            rw [ht9] at hP1
            have hw9 := hw9.symm
            subst hw9
            obtain ⟨hP, hD⟩ := va_join (wr := [(a_this_row, .inl (cI, n_this_row, .inl f_this_row))]) (w1 := [(a_this, .inr (4, [.int i_this_thrown, .int i_this_kind, .int i_this_form, .ref a_this_bits, .ref a_this_values, .ref a_this_has, .int i_this_fields, .int i_this_checks, .int i_this_symbols, .ref a_this_row, .int i_this_size, .ref a_this_seen, .int i_this_many, .ref a_this_told, .int i_this_right, .int i_this_mended, .int i_this_mask, .int i_this_turned, .ref a_this_word, .ref a_this_gone, .ref a_this_lines, .ref a_this_places, .ref a_this_square])), (a_this_square, .inl (cI, n_this_square, .inl f24)), (a_this_word, .inl (cI, n_this_word, .inl f_this_word))]) hP hD [0, 2, 3] [1] rfl rfl (by decide) (by decide) hk9 hFc hP1 hD1
            generalize H1 = H at hP hS ⊢
            have hP := hP.sub (ws' := [(a_this, .inr (4, [.int i_this_thrown, .int i_this_kind, .int i_this_form, .ref a_this_bits, .ref a_this_values, .ref a_this_has, .int i_this_fields, .int i_this_checks, .int i_this_symbols, .ref a_this_row, .int i_this_size, .ref a_this_seen, .int i_this_many, .ref a_this_told, .int i_this_right, .int i_this_mended, .int i_this_mask, .int i_this_turned, .ref a_this_word, .ref a_this_gone, .ref a_this_lines, .ref a_this_places, .ref a_this_square])), (a_this_row, .inl (cI, n_this_row, .inl f_this_row)), (a_this_square, .inl (cI, n_this_square, .inl f24)), (a_this_word, .inl (cI, n_this_word, .inl f_this_word))]) [1, 0, 2, 3] rfl
            have hD := hD.sub (ws' := [(a_this, .inr (4, [.int i_this_thrown, .int i_this_kind, .int i_this_form, .ref a_this_bits, .ref a_this_values, .ref a_this_has, .int i_this_fields, .int i_this_checks, .int i_this_symbols, .ref a_this_row, .int i_this_size, .ref a_this_seen, .int i_this_many, .ref a_this_told, .int i_this_right, .int i_this_mended, .int i_this_mask, .int i_this_turned, .ref a_this_word, .ref a_this_gone, .ref a_this_lines, .ref a_this_places, .ref a_this_square])), (a_this_row, .inl (cI, n_this_row, .inl f_this_row)), (a_this_square, .inl (cI, n_this_square, .inl f24)), (a_this_word, .inl (cI, n_this_word, .inl f_this_word))]) [1, 0, 2, 3] (by decide) rfl
            refine lv_aload_n hx hb dX5_draw_17 rfl (lv_at hl 0 rfl) ?_
            obtain ⟨v25, y18, h⟩ := im_b1_u h
            have hPc := hP.sub (ws' := [(a_this, .inr (4, [.int i_this_thrown, .int i_this_kind, .int i_this_form, .ref a_this_bits, .ref a_this_values, .ref a_this_has, .int i_this_fields, .int i_this_checks, .int i_this_symbols, .ref a_this_row, .int i_this_size, .ref a_this_seen, .int i_this_many, .ref a_this_told, .int i_this_right, .int i_this_mended, .int i_this_mask, .int i_this_turned, .ref a_this_word, .ref a_this_gone, .ref a_this_lines, .ref a_this_places, .ref a_this_square])), (a_this_square, .inl (cI, n_this_square, .inl f24))]) [0, 2] rfl
            refine vp_callSi (W.runV (As := []) (rest := []) ⟨hx, hb, hml, hown, hts⟩ (c_X5_penalty l dC dI cI cJ cZ a_this a_this_bits a_this_values a_this_has a_this_row a_this_seen a_this_told a_this_word a_this_gone a_this_lines a_this_places a_this_square i_this_thrown i_this_kind i_this_form i_this_fields i_this_checks i_this_symbols i_this_size i_this_many i_this_right i_this_mended i_this_mask i_this_turned n_this_square f24 y18) (cwV 0 hts gX5_draw_X5_penalty rfl rfl rfl (by decide +kernel) ⟨Nat.le_of_ble_eq_true rfl, Nat.le_of_ble_eq_true rfl⟩) ⟨fun a U g mk q => by obtain ⟨q0, qP, qK⟩ := q; exact ⟨q0, qP, va_K.moved (u := U) (U := U.calling g mk a) (Vm.Alike.refl U.vm) qK⟩, va_recv hK hPc (ci := 4) (q0 := 0) rfl rfl, fun U hU hW => ⟨rfl, by rw [hU]; exact hPc, va_K.moved hW.alike hK⟩⟩ rfl rfl hl.1 rfl (lv_room (Nat.le_of_ble_eq_true rfl)) dX5_draw_18 ⟨Nat.zero_le _, Nat.zero_le _⟩) (fun w18 ew18 => ?_)
            have ew18 := ew18.symm
            subst ew18
            refine lv_istore (lv' := [(4, .int v25), (0, .ref a_this), (1, .int v11), (2, .int v12), (3, .int v13)]) hx hb dX5_draw_21 hl (by decide) rfl (fun ls hl => ?_)
            refine lv_iload hx hb dX5_draw_23 (lv_at hl 0 rfl) ?_
            refine lv_iload_n hx hb dX5_draw_25 rfl (lv_at hl 3 rfl) ?_
            refine lv_icmp_ge (tgt := 33) hx hb dX5_draw_26 (by decide) (fun c26 => ?_) (fun c26 => ?_)
            · replace h := im_t c26 h
              refine lv_iload_n hx hb dX5_draw_33 rfl (lv_at hl 2 rfl) ?_
              exact J19 v25 v11 f24 h _ _ _ hP hD hS (lv_sub hl [1, 3, 4, 0] rfl)
            · replace h := im_f c26 h
              refine lv_iload_n hx hb dX5_draw_29 rfl (lv_at hl 4 rfl) ?_
              refine lv_goto (tgt := 34) hx hb dX5_draw_30 (by decide) ?_
              exact J19 v25 v13 f24 h _ _ _ hP hD hS (lv_sub hl [1, 3, 4, 0] rfl)
    exact Lp15 5000 (0 : Int32) (100000 : Int32) (0 : Int32) f_this_square h _ _ _ hP hD hS (lv_sub hl [3, 2, 1, 0] rfl)
def im_X5_signed (x0 : Int32) (i_this_kind : Int32) (i_this_form : Int32) (i_this_checks : Int32) (i_this_symbols : Int32) (n_this_word : Nat) (f_this_word : Nat → Int32) : Option (Int32) := im_j0 (im_ld n_this_word f_this_word x0 (fun v2 => (some v2))) (fun K1 => if i_this_kind = (3 : Int32) then im_lt (i_this_symbols - i_this_checks) (fun v3 => if x0 < v3 then (K1) else im_ld n_this_word f_this_word x0 (fun v4 => im_lt (i_this_form &&& (63 : Int32)) (fun v5 => im_lt (v4 ^^^ v5) (fun v6 => (some v6))))) else (K1))
abbrev rm_X5_signed : Room := { frames := 0, cells := 0, slots := 0, locals := 0 }
theorem hn_X5_signed_X5 : ∀ w ∈ wsX50, w ∈ wsX5_signed := by decide +kernel
theorem fl_X5_signed_37 : Cond.fieldLink RX5 37 "BarCodesModel" "word" "[I" ∈ wsX5_signed := by decide +kernel
theorem fl_X5_signed_56 : Cond.fieldLink RX5 56 "BarCodesModel" "kind" "I" ∈ wsX5_signed := by decide +kernel
theorem fl_X5_signed_65 : Cond.fieldLink RX5 65 "BarCodesModel" "symbols" "I" ∈ wsX5_signed := by decide +kernel
theorem fl_X5_signed_62 : Cond.fieldLink RX5 62 "BarCodesModel" "checks" "I" ∈ wsX5_signed := by decide +kernel
theorem fl_X5_signed_53 : Cond.fieldLink RX5 53 "BarCodesModel" "form" "I" ∈ wsX5_signed := by decide +kernel
set_option maxHeartbeats 4000000 in
set_option maxRecDepth 100000 in
theorem c_X5_signed (l : Launch) (dC : Nat → ClassId) (dI : Nat → Nat → Nat) (cI cJ cZ : ClassId) (a_this a_this_bits a_this_values a_this_has a_this_row a_this_seen a_this_told a_this_word a_this_gone a_this_lines a_this_places a_this_square : Nat) (i_this_thrown i_this_kind i_this_form i_this_fields i_this_checks i_this_symbols i_this_size i_this_many i_this_right i_this_mended i_this_mask i_this_turned : Int32) (n_this_word : Nat) (f_this_word : Nat → Int32) (x0 : Int32) {r : Int32} (h : im_X5_signed x0 i_this_kind i_this_form i_this_checks i_this_symbols n_this_word f_this_word = some r) : Met l yX5_signed wsX5_signed rm_X5_signed (va_Pc [.ref a_this, .int x0] (fun U => va_P (dC, dI) vwCl [(a_this, .inr (4, [.int i_this_thrown, .int i_this_kind, .int i_this_form, .ref a_this_bits, .ref a_this_values, .ref a_this_has, .int i_this_fields, .int i_this_checks, .int i_this_symbols, .ref a_this_row, .int i_this_size, .ref a_this_seen, .int i_this_many, .ref a_this_told, .int i_this_right, .int i_this_mended, .int i_this_mask, .int i_this_turned, .ref a_this_word, .ref a_this_gone, .ref a_this_lines, .ref a_this_places, .ref a_this_square])), (a_this_word, .inl (cI, n_this_word, .inl f_this_word))] U.heap ∧ va_K (dC, dI) vwCl [(cI, .int), (cJ, .long), (cZ, .boolean)] U)) (vp_Si (fun r9 => r9 = r)) 0 0 (fun _ => False) := by
  refine Met.ofW (cc := cX5_signed) (maxL := 2) (ret := (some .int)) (by decide) rfl ?_
  intro p e s m args below meth c s₁ B hml hv
  obtain ⟨eargs, hP, hK⟩ := hv
  have hx := B.exec
  have hb := B.bytes
  have hr := B.returns
  have hts := atoms_spec (ws := wsX5_signed) B.pre
  have hown : s.vm.findClass RX5 = some m.cls := findClass_of_methodNamed B.named
  have hlocks := B.notSynchronized
  refine im_Q (fun Q eQ => ?_)
  have hl := lv_entry [.ref a_this, .int x0] (n := 2) (Nat.le_of_ble_eq_true rfl)
  rw [show entryFrame m args 2 = entryFrame m ([.ref a_this, .int x0] : List Value).toArray 2 by rw [eargs], lg_entry_eq]
  generalize (lg_sl ([.ref a_this, .int x0]) ++ List.replicate (2 - (lg_sl ([.ref a_this, .int x0])).length) Slot.unset).toArray = ls at hl ⊢
  have hl : lv_has ls 2 [(0, .ref a_this), (1, .int x0)] := hl
  rw [im_X5_signed] at h
  refine im_j0_u (P := ∀ (ls : Array Slot), lv_has ls 2 [(0, .ref a_this), (1, .int x0)] → W p l e (headSpec wsX5_signed rm_X5_signed).room s m args below meth c s.heap [] 0 0 Q (F0 m 38 ls [])) h (fun h ls hl => ?_) (fun K1 J1 h => ?_)
  · refine lv_aload_n hx hb dX5_signed_38 rfl (lv_at hl 0 rfl) ?_
    refine va_get (D := (dC, dI)) (ci := 4) (v := .ref a_this_word) (C := RX5) (T := TX5) (N := 23) hx hb hts hn_X5_signed_X5 hown hK hP 0 rfl rfl 18 (by decide) (hts _ fl_X5_signed_37) (fun _ h9 => h9) rfl dX5_signed_39 ?_
    refine lv_iload_n hx hb dX5_signed_42 rfl (lv_at hl 1 rfl) ?_
    obtain ⟨q43, h⟩ := im_ld_u h
    refine va_iald hx hb hK hP 1 0 rfl rfl q43 dX5_signed_43 ?_
    refine lv_topi (fun v2 ev2 => ?_)
    replace h := h v2 ev2
    rw [eQ]
    exact W.iret (v := v2) hx hb hr (fun t ht hW => ⟨_, rfl, Option.some.inj h, ht⟩) (fun _ h9 => by cases h9) dX5_signed_44
  · refine lv_aload_n hx hb dX5_signed_0 rfl (lv_at hl 0 rfl) ?_
    refine va_get (D := (dC, dI)) (ci := 4) (v := .int i_this_kind) (C := RX5) (T := TX5) (N := 23) hx hb hts hn_X5_signed_X5 hown hK hP 0 rfl rfl 1 (by decide) (hts _ fl_X5_signed_56) (fun _ h9 => h9) rfl dX5_signed_1 ?_
    refine lv_iconst (v := (3 : Int32)) hx hb dX5_signed_4 (by decide) ?_
    refine lv_icmp_ne (tgt := 38) hx hb dX5_signed_5 (by decide) (fun c5 => ?_) (fun c5 => ?_)
    · replace h := im_f c5 h
      exact J1  h _ (lv_sub hl [0, 1] rfl)
    · replace h := im_t c5 h
      refine lv_iload_n hx hb dX5_signed_8 rfl (lv_at hl 1 rfl) ?_
      refine lv_aload_n hx hb dX5_signed_9 rfl (lv_at hl 0 rfl) ?_
      refine va_get (D := (dC, dI)) (ci := 4) (v := .int i_this_symbols) (C := RX5) (T := TX5) (N := 23) hx hb hts hn_X5_signed_X5 hown hK hP 0 rfl rfl 8 (by decide) (hts _ fl_X5_signed_65) (fun _ h9 => h9) rfl dX5_signed_10 ?_
      refine lv_aload_n hx hb dX5_signed_13 rfl (lv_at hl 0 rfl) ?_
      refine va_get (D := (dC, dI)) (ci := 4) (v := .int i_this_checks) (C := RX5) (T := TX5) (N := 23) hx hb hts hn_X5_signed_X5 hown hK hP 0 rfl rfl 7 (by decide) (hts _ fl_X5_signed_62) (fun _ h9 => h9) rfl dX5_signed_14 ?_
      refine lv_isub hx hb dX5_signed_17 ?_
      refine lv_topi (fun v3 ev3 => ?_)
      replace h := im_lt_u h v3 ev3
      refine lv_icmp_lt (tgt := 38) hx hb dX5_signed_18 (by decide) (fun c18 => ?_) (fun c18 => ?_)
      · replace h := im_t c18 h
        exact J1  h _ (lv_sub hl [0, 1] rfl)
      · replace h := im_f c18 h
        refine lv_aload_n hx hb dX5_signed_21 rfl (lv_at hl 0 rfl) ?_
        refine va_get (D := (dC, dI)) (ci := 4) (v := .ref a_this_word) (C := RX5) (T := TX5) (N := 23) hx hb hts hn_X5_signed_X5 hown hK hP 0 rfl rfl 18 (by decide) (hts _ fl_X5_signed_37) (fun _ h9 => h9) rfl dX5_signed_22 ?_
        refine lv_iload_n hx hb dX5_signed_25 rfl (lv_at hl 1 rfl) ?_
        obtain ⟨q26, h⟩ := im_ld_u h
        refine va_iald hx hb hK hP 1 0 rfl rfl q26 dX5_signed_26 ?_
        refine lv_topi (fun v4 ev4 => ?_)
        replace h := h v4 ev4
        refine lv_aload_n hx hb dX5_signed_27 rfl (lv_at hl 0 rfl) ?_
        refine va_get (D := (dC, dI)) (ci := 4) (v := .int i_this_form) (C := RX5) (T := TX5) (N := 23) hx hb hts hn_X5_signed_X5 hown hK hP 0 rfl rfl 2 (by decide) (hts _ fl_X5_signed_53) (fun _ h9 => h9) rfl dX5_signed_28 ?_
        refine lv_bipush (v := (63 : Int32)) hx hb dX5_signed_31 (by decide) ?_
        refine lv_iand hx hb dX5_signed_33 ?_
        refine lv_topi (fun v5 ev5 => ?_)
        replace h := im_lt_u h v5 ev5
        refine lv_ixor hx hb dX5_signed_34 ?_
        refine lv_topi (fun v6 ev6 => ?_)
        replace h := im_lt_u h v6 ev6
        refine lv_goto (tgt := 44) hx hb dX5_signed_35 (by decide) ?_
        rw [eQ]
        exact W.iret (v := v6) hx hb hr (fun t ht hW => ⟨_, rfl, Option.some.inj h, ht⟩) (fun _ h9 => by cases h9) dX5_signed_44
def im_X5_make_L50 (v8 : Int32) (K10 : (Nat → Int32) → Option (Int32 × Int32 × Int32 × Int32 × (Nat → Int32) × (Nat → Int32) × (Nat → Int32) × (Nat → Int32) × (Nat → Int32) × (Nat → Int32))) (n_this_row : Nat) (i_this_kind : Int32) (i_this_symbols : Int32) (i_this_form : Int32) (i_this_checks : Int32) (n_this_word : Nat) (f7 : Nat → Int32) : Nat → Int32 → (Nat → Int32) → Option (Int32 × Int32 × Int32 × Int32 × (Nat → Int32) × (Nat → Int32) × (Nat → Int32) × (Nat → Int32) × (Nat → Int32) × (Nat → Int32))
  | 0, _, _ => none
  | n + 1, v11, f12 => if v8 ≤ v11 then (K10 f12) else im_j1 (fun (v14 : Int32) => im_st n_this_row f12 v11 v14 (fun f16 => im_lt (v11 + (1 : Int32)) (fun v17 => (im_X5_make_L50 v8 K10 n_this_row i_this_kind i_this_symbols i_this_form i_this_checks n_this_word f7 n v17 f16)))) (fun K15 => im_lt (v11 - (2 : Int32)) (fun v18 => im_b1 (im_X5_frame v11 i_this_kind i_this_symbols) (fun v19 => if v19 = (-1 : Int32) then if i_this_kind = (3 : Int32) then im_lt (v18 / (6 : Int32)) (fun v27 => im_b1 (im_X5_signed v27 i_this_kind i_this_form i_this_checks i_this_symbols n_this_word f7) (fun v28 => im_lt (v18 - v18 / (6 : Int32) * (6 : Int32)) (fun v29 => im_lt ((5 : Int32) - v29) (fun v30 => im_lt (v28 >>> (v30 &&& 31)) (fun v31 => im_lt (v31 &&& (1 : Int32)) (fun v32 => (K15 v32))))))) else im_lt (v18 / (3 : Int32)) (fun v20 => im_ld n_this_word f7 v20 (fun v21 => im_lt (v18 - v18 / (3 : Int32) * (3 : Int32)) (fun v22 => im_lt (v22 * (2 : Int32)) (fun v23 => im_lt ((4 : Int32) - v23) (fun v24 => im_lt (v21 >>> (v24 &&& 31)) (fun v25 => im_lt (v25 &&& (3 : Int32)) (fun v26 => (K15 v26)))))))) else im_b1 (im_X5_frame v11 i_this_kind i_this_symbols) (fun v33 => (K15 v33)))))
def im_X5_make (i_this_thrown : Int32) (i_this_kind : Int32) (i_this_form : Int32) (i_this_fields : Int32) (i_this_checks : Int32) (i_this_symbols : Int32) (i_this_size : Int32) (i_this_mask : Int32) (n_this_bits : Nat) (n_this_gone : Nat) (n_this_has : Nat) (n_this_lines : Nat) (n_this_places : Nat) (n_this_row : Nat) (n_this_square : Nat) (n_this_values : Nat) (n_this_word : Nat) (f_this_bits : Nat → Int32) (f_this_gone : Nat → Int32) (f_this_has : Nat → Int32) (f_this_lines : Nat → Int32) (f_this_places : Nat → Int32) (f_this_row : Nat → Int32) (f_this_square : Nat → Int32) (f_this_values : Nat → Int64) (f_this_word : Nat → Int32) : Option (Int32 × Int32 × Int32 × Int32 × (Nat → Int32) × (Nat → Int32) × (Nat → Int32) × (Nat → Int32) × (Nat → Int32) × (Nat → Int32)) := im_b1 (im_X5_isWhole i_this_fields n_this_has f_this_has) (fun v1 => if v1 = 0 then (some ((-1 : Int32), i_this_mask, i_this_size, (0 : Int32), f_this_gone, f_this_lines, f_this_places, f_this_row, f_this_square, f_this_word)) else im_b2 (im_X5_pack i_this_fields i_this_checks i_this_symbols n_this_bits n_this_gone n_this_values n_this_word f_this_bits f_this_gone f_this_values f_this_word) (fun f2 f3 => im_b4 (im_X5_mend i_this_checks i_this_symbols n_this_gone n_this_lines n_this_places n_this_word f2 f_this_lines f_this_places f3) (fun v4 f5 f6 f7 => im_b1 (im_X5_length i_this_kind i_this_symbols) (fun v8 => if i_this_kind = (2 : Int32) then im_b3 (im_X5_draw i_this_kind i_this_symbols i_this_mask n_this_row n_this_square n_this_word f_this_row f_this_square f7) (fun v34 f35 f36 => (some (v8, v34, v8, (0 : Int32), f2, f5, f6, f35, f36, f7))) else im_j1 (fun (f9 : Nat → Int32) => (some (v8, i_this_mask, v8, (0 : Int32), f2, f5, f6, f9, f_this_square, f7))) (fun K10 => (im_X5_make_L50 v8 K10 n_this_row i_this_kind i_this_symbols i_this_form i_this_checks n_this_word f7 5000 (0 : Int32) f_this_row))))))
abbrev rm_X5_make : Room := { frames := 6, cells := 0, slots := 0, locals := 145 }
theorem hn_X5_make_X5 : ∀ w ∈ wsX50, w ∈ wsX5_make := by decide +kernel
theorem fl_X5_make_68 : Cond.fieldLink RX5 68 "BarCodesModel" "thrown" "I" ∈ wsX5_make := by decide +kernel
theorem fl_X5_make_150 : Cond.fieldLink RX5 150 "BarCodesModel" "size" "I" ∈ wsX5_make := by decide +kernel
theorem fl_X5_make_56 : Cond.fieldLink RX5 56 "BarCodesModel" "kind" "I" ∈ wsX5_make := by decide +kernel
theorem fl_X5_make_21 : Cond.fieldLink RX5 21 "BarCodesModel" "row" "[I" ∈ wsX5_make := by decide +kernel
theorem fl_X5_make_37 : Cond.fieldLink RX5 37 "BarCodesModel" "word" "[I" ∈ wsX5_make := by decide +kernel
set_option maxHeartbeats 4000000 in
set_option maxRecDepth 100000 in
theorem c_X5_make (l : Launch) (dC : Nat → ClassId) (dI : Nat → Nat → Nat) (cI cJ cZ : ClassId) (sz : Nat) (a_this a_this_bits a_this_values a_this_has a_this_row a_this_seen a_this_told a_this_word a_this_gone a_this_lines a_this_places a_this_square : Nat) (i_this_thrown i_this_kind i_this_form i_this_fields i_this_checks i_this_symbols i_this_size i_this_many i_this_right i_this_mended i_this_mask i_this_turned : Int32) (n_this_bits n_this_gone n_this_has n_this_lines n_this_places n_this_row n_this_square n_this_values n_this_word : Nat) (f_this_bits : Nat → Int32) (f_this_gone : Nat → Int32) (f_this_has : Nat → Int32) (f_this_lines : Nat → Int32) (f_this_places : Nat → Int32) (f_this_row : Nat → Int32) (f_this_square : Nat → Int32) (f_this_values : Nat → Int64) (f_this_word : Nat → Int32) {r : Int32 × Int32 × Int32 × Int32 × (Nat → Int32) × (Nat → Int32) × (Nat → Int32) × (Nat → Int32) × (Nat → Int32) × (Nat → Int32)} (h : im_X5_make i_this_thrown i_this_kind i_this_form i_this_fields i_this_checks i_this_symbols i_this_size i_this_mask n_this_bits n_this_gone n_this_has n_this_lines n_this_places n_this_row n_this_square n_this_values n_this_word f_this_bits f_this_gone f_this_has f_this_lines f_this_places f_this_row f_this_square f_this_values f_this_word = some r) : Met l yX5_make wsX5_make rm_X5_make (va_Pc [.ref a_this] (fun U => U.heap.size = sz ∧ va_P (dC, dI) vwCl [(a_this, .inr (4, [.int i_this_thrown, .int i_this_kind, .int i_this_form, .ref a_this_bits, .ref a_this_values, .ref a_this_has, .int i_this_fields, .int i_this_checks, .int i_this_symbols, .ref a_this_row, .int i_this_size, .ref a_this_seen, .int i_this_many, .ref a_this_told, .int i_this_right, .int i_this_mended, .int i_this_mask, .int i_this_turned, .ref a_this_word, .ref a_this_gone, .ref a_this_lines, .ref a_this_places, .ref a_this_square])), (a_this_bits, .inl (cI, n_this_bits, .inl f_this_bits)), (a_this_gone, .inl (cZ, n_this_gone, .inl f_this_gone)), (a_this_has, .inl (cZ, n_this_has, .inl f_this_has)), (a_this_lines, .inl (cI, n_this_lines, .inl f_this_lines)), (a_this_places, .inl (cI, n_this_places, .inl f_this_places)), (a_this_row, .inl (cI, n_this_row, .inl f_this_row)), (a_this_square, .inl (cI, n_this_square, .inl f_this_square)), (a_this_values, .inl (cJ, n_this_values, .inr (.inl f_this_values))), (a_this_word, .inl (cI, n_this_word, .inl f_this_word))] U.heap ∧ va_K (dC, dI) vwCl [(cI, .int), (cJ, .long), (cZ, .boolean)] U ∧ va_D (fun _ => True) [(a_this, .inr (4, [.int i_this_thrown, .int i_this_kind, .int i_this_form, .ref a_this_bits, .ref a_this_values, .ref a_this_has, .int i_this_fields, .int i_this_checks, .int i_this_symbols, .ref a_this_row, .int i_this_size, .ref a_this_seen, .int i_this_many, .ref a_this_told, .int i_this_right, .int i_this_mended, .int i_this_mask, .int i_this_turned, .ref a_this_word, .ref a_this_gone, .ref a_this_lines, .ref a_this_places, .ref a_this_square])), (a_this_bits, .inl (cI, n_this_bits, .inl f_this_bits)), (a_this_gone, .inl (cZ, n_this_gone, .inl f_this_gone)), (a_this_has, .inl (cZ, n_this_has, .inl f_this_has)), (a_this_lines, .inl (cI, n_this_lines, .inl f_this_lines)), (a_this_places, .inl (cI, n_this_places, .inl f_this_places)), (a_this_row, .inl (cI, n_this_row, .inl f_this_row)), (a_this_square, .inl (cI, n_this_square, .inl f_this_square)), (a_this_values, .inl (cJ, n_this_values, .inr (.inl f_this_values))), (a_this_word, .inl (cI, n_this_word, .inl f_this_word))])) (va_Qi (S := Int32 × Int32 × Int32 × (Nat → Int32) × (Nat → Int32) × (Nat → Int32) × (Nat → Int32) × (Nat → Int32) × (Nat → Int32)) (fun r9 u9 => (r9, u9) = r) (fun u9 t9 => va_P (dC, dI) vwCl [(a_this, .inr (4, [.int (u9.2.2.1), .int i_this_kind, .int i_this_form, .ref a_this_bits, .ref a_this_values, .ref a_this_has, .int i_this_fields, .int i_this_checks, .int i_this_symbols, .ref a_this_row, .int (u9.2.1), .ref a_this_seen, .int i_this_many, .ref a_this_told, .int i_this_right, .int i_this_mended, .int (u9.1), .int i_this_turned, .ref a_this_word, .ref a_this_gone, .ref a_this_lines, .ref a_this_places, .ref a_this_square])), (a_this_bits, .inl (cI, n_this_bits, .inl f_this_bits)), (a_this_gone, .inl (cZ, n_this_gone, .inl (u9.2.2.2.1))), (a_this_has, .inl (cZ, n_this_has, .inl f_this_has)), (a_this_lines, .inl (cI, n_this_lines, .inl (u9.2.2.2.2.1))), (a_this_places, .inl (cI, n_this_places, .inl (u9.2.2.2.2.2.1))), (a_this_row, .inl (cI, n_this_row, .inl (u9.2.2.2.2.2.2.1))), (a_this_square, .inl (cI, n_this_square, .inl (u9.2.2.2.2.2.2.2.1))), (a_this_values, .inl (cJ, n_this_values, .inr (.inl f_this_values))), (a_this_word, .inl (cI, n_this_word, .inl (u9.2.2.2.2.2.2.2.2)))] t9.heap ∧ va_K (dC, dI) vwCl [(cI, .int), (cJ, .long), (cZ, .boolean)] t9 ∧ va_D (va_A [(a_this, .inr (4, [.int i_this_thrown, .int i_this_kind, .int i_this_form, .ref a_this_bits, .ref a_this_values, .ref a_this_has, .int i_this_fields, .int i_this_checks, .int i_this_symbols, .ref a_this_row, .int i_this_size, .ref a_this_seen, .int i_this_many, .ref a_this_told, .int i_this_right, .int i_this_mended, .int i_this_mask, .int i_this_turned, .ref a_this_word, .ref a_this_gone, .ref a_this_lines, .ref a_this_places, .ref a_this_square])), (a_this_bits, .inl (cI, n_this_bits, .inl f_this_bits)), (a_this_gone, .inl (cZ, n_this_gone, .inl f_this_gone)), (a_this_has, .inl (cZ, n_this_has, .inl f_this_has)), (a_this_lines, .inl (cI, n_this_lines, .inl f_this_lines)), (a_this_places, .inl (cI, n_this_places, .inl f_this_places)), (a_this_row, .inl (cI, n_this_row, .inl f_this_row)), (a_this_square, .inl (cI, n_this_square, .inl f_this_square)), (a_this_values, .inl (cJ, n_this_values, .inr (.inl f_this_values))), (a_this_word, .inl (cI, n_this_word, .inl f_this_word))] sz) [(a_this, .inr (4, [.int (u9.2.2.1), .int i_this_kind, .int i_this_form, .ref a_this_bits, .ref a_this_values, .ref a_this_has, .int i_this_fields, .int i_this_checks, .int i_this_symbols, .ref a_this_row, .int (u9.2.1), .ref a_this_seen, .int i_this_many, .ref a_this_told, .int i_this_right, .int i_this_mended, .int (u9.1), .int i_this_turned, .ref a_this_word, .ref a_this_gone, .ref a_this_lines, .ref a_this_places, .ref a_this_square])), (a_this_bits, .inl (cI, n_this_bits, .inl f_this_bits)), (a_this_gone, .inl (cZ, n_this_gone, .inl (u9.2.2.2.1))), (a_this_has, .inl (cZ, n_this_has, .inl f_this_has)), (a_this_lines, .inl (cI, n_this_lines, .inl (u9.2.2.2.2.1))), (a_this_places, .inl (cI, n_this_places, .inl (u9.2.2.2.2.2.1))), (a_this_row, .inl (cI, n_this_row, .inl (u9.2.2.2.2.2.2.1))), (a_this_square, .inl (cI, n_this_square, .inl (u9.2.2.2.2.2.2.2.1))), (a_this_values, .inl (cJ, n_this_values, .inr (.inl f_this_values))), (a_this_word, .inl (cI, n_this_word, .inl (u9.2.2.2.2.2.2.2.2)))]) (va_A [(a_this, .inr (4, [.int i_this_thrown, .int i_this_kind, .int i_this_form, .ref a_this_bits, .ref a_this_values, .ref a_this_has, .int i_this_fields, .int i_this_checks, .int i_this_symbols, .ref a_this_row, .int i_this_size, .ref a_this_seen, .int i_this_many, .ref a_this_told, .int i_this_right, .int i_this_mended, .int i_this_mask, .int i_this_turned, .ref a_this_word, .ref a_this_gone, .ref a_this_lines, .ref a_this_places, .ref a_this_square])), (a_this_bits, .inl (cI, n_this_bits, .inl f_this_bits)), (a_this_gone, .inl (cZ, n_this_gone, .inl f_this_gone)), (a_this_has, .inl (cZ, n_this_has, .inl f_this_has)), (a_this_lines, .inl (cI, n_this_lines, .inl f_this_lines)), (a_this_places, .inl (cI, n_this_places, .inl f_this_places)), (a_this_row, .inl (cI, n_this_row, .inl f_this_row)), (a_this_square, .inl (cI, n_this_square, .inl f_this_square)), (a_this_values, .inl (cJ, n_this_values, .inr (.inl f_this_values))), (a_this_word, .inl (cI, n_this_word, .inl f_this_word))] sz)) 0 0 (va_A [(a_this, .inr (4, [.int i_this_thrown, .int i_this_kind, .int i_this_form, .ref a_this_bits, .ref a_this_values, .ref a_this_has, .int i_this_fields, .int i_this_checks, .int i_this_symbols, .ref a_this_row, .int i_this_size, .ref a_this_seen, .int i_this_many, .ref a_this_told, .int i_this_right, .int i_this_mended, .int i_this_mask, .int i_this_turned, .ref a_this_word, .ref a_this_gone, .ref a_this_lines, .ref a_this_places, .ref a_this_square])), (a_this_bits, .inl (cI, n_this_bits, .inl f_this_bits)), (a_this_gone, .inl (cZ, n_this_gone, .inl f_this_gone)), (a_this_has, .inl (cZ, n_this_has, .inl f_this_has)), (a_this_lines, .inl (cI, n_this_lines, .inl f_this_lines)), (a_this_places, .inl (cI, n_this_places, .inl f_this_places)), (a_this_row, .inl (cI, n_this_row, .inl f_this_row)), (a_this_square, .inl (cI, n_this_square, .inl f_this_square)), (a_this_values, .inl (cJ, n_this_values, .inr (.inl f_this_values))), (a_this_word, .inl (cI, n_this_word, .inl f_this_word))] sz) := by
  refine Met.ofW (cc := cX5_make) (maxL := 5) (ret := (some .int)) (by decide) rfl ?_
  intro p e s m args below meth c s₁ B hml hv
  obtain ⟨eargs, hsz, hP, hK, hD0⟩ := hv
  have hx := B.exec
  have hb := B.bytes
  have hr := B.returns
  have hts := atoms_spec (ws := wsX5_make) B.pre
  have hown : s.vm.findClass RX5 = some m.cls := findClass_of_methodNamed B.named
  have hlocks := B.notSynchronized
  refine im_Q (fun Q eQ => ?_)
  subst hsz
  have hD := hD0.self (sz := s.heap.size)
  generalize hAe : va_A [(a_this, .inr (4, [.int i_this_thrown, .int i_this_kind, .int i_this_form, .ref a_this_bits, .ref a_this_values, .ref a_this_has, .int i_this_fields, .int i_this_checks, .int i_this_symbols, .ref a_this_row, .int i_this_size, .ref a_this_seen, .int i_this_many, .ref a_this_told, .int i_this_right, .int i_this_mended, .int i_this_mask, .int i_this_turned, .ref a_this_word, .ref a_this_gone, .ref a_this_lines, .ref a_this_places, .ref a_this_square])), (a_this_bits, .inl (cI, n_this_bits, .inl f_this_bits)), (a_this_gone, .inl (cZ, n_this_gone, .inl f_this_gone)), (a_this_has, .inl (cZ, n_this_has, .inl f_this_has)), (a_this_lines, .inl (cI, n_this_lines, .inl f_this_lines)), (a_this_places, .inl (cI, n_this_places, .inl f_this_places)), (a_this_row, .inl (cI, n_this_row, .inl f_this_row)), (a_this_square, .inl (cI, n_this_square, .inl f_this_square)), (a_this_values, .inl (cJ, n_this_values, .inr (.inl f_this_values))), (a_this_word, .inl (cI, n_this_word, .inl f_this_word))] s.heap.size = A at hD eQ
  have hA : ∀ q : Nat, s.heap.size ≤ q → A q := fun q h => by rw [← hAe]; exact Or.inr h
  have hS : va_S A s.heap s.heap [] := va_S.rf
  have hl := lv_entry [.ref a_this] (n := 5) (Nat.le_of_ble_eq_true rfl)
  rw [show entryFrame m args 5 = entryFrame m ([.ref a_this] : List Value).toArray 5 by rw [eargs], lg_entry_eq]
  generalize (lg_sl ([.ref a_this]) ++ List.replicate (5 - (lg_sl ([.ref a_this])).length) Slot.unset).toArray = ls at hl ⊢
  have hl : lv_has ls 5 [(0, .ref a_this)] := hl
  rw [im_X5_make] at h
  refine lv_aload_n hx hb dX5_make_0 rfl (lv_at hl 0 rfl) ?_
  refine lv_iconst (v := (0 : Int32)) hx hb dX5_make_1 (by decide) ?_
  refine va_put (D := (dC, dI)) (ci := 4) (v := .int (0 : Int32)) (ty := .int) (C := RX5) (T := TX5) (N := 23) hx hb hts hn_X5_make_X5 tyX5 tyX5_ok nmX5 hown hK hP hD hS 0 rfl rfl 0 (by decide) (hts _ fl_X5_make_68) (fun _ h9 => h9) rfl (by decide +kernel) rfl rfl (Nat.le_of_ble_eq_true rfl) dX5_make_2 (fun H locs hP hD hS => ?_)
  have hP : va_P (dC, dI) vwCl [(a_this, .inr (4, [.int (0 : Int32), .int i_this_kind, .int i_this_form, .ref a_this_bits, .ref a_this_values, .ref a_this_has, .int i_this_fields, .int i_this_checks, .int i_this_symbols, .ref a_this_row, .int i_this_size, .ref a_this_seen, .int i_this_many, .ref a_this_told, .int i_this_right, .int i_this_mended, .int i_this_mask, .int i_this_turned, .ref a_this_word, .ref a_this_gone, .ref a_this_lines, .ref a_this_places, .ref a_this_square])), (a_this_bits, .inl (cI, n_this_bits, .inl f_this_bits)), (a_this_gone, .inl (cZ, n_this_gone, .inl f_this_gone)), (a_this_has, .inl (cZ, n_this_has, .inl f_this_has)), (a_this_lines, .inl (cI, n_this_lines, .inl f_this_lines)), (a_this_places, .inl (cI, n_this_places, .inl f_this_places)), (a_this_row, .inl (cI, n_this_row, .inl f_this_row)), (a_this_square, .inl (cI, n_this_square, .inl f_this_square)), (a_this_values, .inl (cJ, n_this_values, .inr (.inl f_this_values))), (a_this_word, .inl (cI, n_this_word, .inl f_this_word))] H := hP
  have hD : va_D A [(a_this, .inr (4, [.int (0 : Int32), .int i_this_kind, .int i_this_form, .ref a_this_bits, .ref a_this_values, .ref a_this_has, .int i_this_fields, .int i_this_checks, .int i_this_symbols, .ref a_this_row, .int i_this_size, .ref a_this_seen, .int i_this_many, .ref a_this_told, .int i_this_right, .int i_this_mended, .int i_this_mask, .int i_this_turned, .ref a_this_word, .ref a_this_gone, .ref a_this_lines, .ref a_this_places, .ref a_this_square])), (a_this_bits, .inl (cI, n_this_bits, .inl f_this_bits)), (a_this_gone, .inl (cZ, n_this_gone, .inl f_this_gone)), (a_this_has, .inl (cZ, n_this_has, .inl f_this_has)), (a_this_lines, .inl (cI, n_this_lines, .inl f_this_lines)), (a_this_places, .inl (cI, n_this_places, .inl f_this_places)), (a_this_row, .inl (cI, n_this_row, .inl f_this_row)), (a_this_square, .inl (cI, n_this_square, .inl f_this_square)), (a_this_values, .inl (cJ, n_this_values, .inr (.inl f_this_values))), (a_this_word, .inl (cI, n_this_word, .inl f_this_word))] := hD
  refine lv_aload_n hx hb dX5_make_5 rfl (lv_at hl 0 rfl) ?_
  obtain ⟨v1, y6, h⟩ := im_b1_u h
  have hPc := hP.sub (ws' := [(a_this, .inr (4, [.int (0 : Int32), .int i_this_kind, .int i_this_form, .ref a_this_bits, .ref a_this_values, .ref a_this_has, .int i_this_fields, .int i_this_checks, .int i_this_symbols, .ref a_this_row, .int i_this_size, .ref a_this_seen, .int i_this_many, .ref a_this_told, .int i_this_right, .int i_this_mended, .int i_this_mask, .int i_this_turned, .ref a_this_word, .ref a_this_gone, .ref a_this_lines, .ref a_this_places, .ref a_this_square])), (a_this_has, .inl (cZ, n_this_has, .inl f_this_has))]) [0, 3] rfl
  refine vp_callSi (W.runV (As := []) (rest := []) ⟨hx, hb, hml, hown, hts⟩ (c_X5_isWhole l dC dI cI cJ cZ a_this a_this_bits a_this_values a_this_has a_this_row a_this_seen a_this_told a_this_word a_this_gone a_this_lines a_this_places a_this_square (0 : Int32) i_this_kind i_this_form i_this_fields i_this_checks i_this_symbols i_this_size i_this_many i_this_right i_this_mended i_this_mask i_this_turned n_this_has f_this_has y6) (cwV 0 hts gX5_make_X5_isWhole rfl rfl rfl (by decide +kernel) ⟨Nat.le_of_ble_eq_true rfl, Nat.le_of_ble_eq_true rfl⟩) ⟨fun a U g mk q => by obtain ⟨q0, qP, qK⟩ := q; exact ⟨q0, qP, va_K.moved (u := U) (U := U.calling g mk a) (Vm.Alike.refl U.vm) qK⟩, va_recv hK hPc (ci := 4) (q0 := 0) rfl rfl, fun U hU hW => ⟨rfl, by rw [hU]; exact hPc, va_K.moved hW.alike hK⟩⟩ rfl rfl hl.1 rfl (lv_room (Nat.le_of_ble_eq_true rfl)) dX5_make_6 ⟨Nat.zero_le _, Nat.zero_le _⟩) (fun w6 ew6 => ?_)
  have ew6 := ew6.symm
  subst ew6
  refine lv_if_ne (tgt := 14) hx hb dX5_make_9 (by decide) (fun c9 => ?_) (fun c9 => ?_)
  · replace h := im_f c9 h
    refine lv_aload_n hx hb dX5_make_14 rfl (lv_at hl 0 rfl) ?_
    obtain ⟨f2, f3, y15, h⟩ := im_b2_u h
    have hPc := hP.sub (ws' := [(a_this, .inr (4, [.int (0 : Int32), .int i_this_kind, .int i_this_form, .ref a_this_bits, .ref a_this_values, .ref a_this_has, .int i_this_fields, .int i_this_checks, .int i_this_symbols, .ref a_this_row, .int i_this_size, .ref a_this_seen, .int i_this_many, .ref a_this_told, .int i_this_right, .int i_this_mended, .int i_this_mask, .int i_this_turned, .ref a_this_word, .ref a_this_gone, .ref a_this_lines, .ref a_this_places, .ref a_this_square])), (a_this_bits, .inl (cI, n_this_bits, .inl f_this_bits)), (a_this_gone, .inl (cZ, n_this_gone, .inl f_this_gone)), (a_this_values, .inl (cJ, n_this_values, .inr (.inl f_this_values))), (a_this_word, .inl (cI, n_this_word, .inl f_this_word))]) [0, 1, 2, 8, 9] rfl
    have hDc := hD.sub (ws' := [(a_this, .inr (4, [.int (0 : Int32), .int i_this_kind, .int i_this_form, .ref a_this_bits, .ref a_this_values, .ref a_this_has, .int i_this_fields, .int i_this_checks, .int i_this_symbols, .ref a_this_row, .int i_this_size, .ref a_this_seen, .int i_this_many, .ref a_this_told, .int i_this_right, .int i_this_mended, .int i_this_mask, .int i_this_turned, .ref a_this_word, .ref a_this_gone, .ref a_this_lines, .ref a_this_places, .ref a_this_square])), (a_this_bits, .inl (cI, n_this_bits, .inl f_this_bits)), (a_this_gone, .inl (cZ, n_this_gone, .inl f_this_gone)), (a_this_values, .inl (cJ, n_this_values, .inr (.inl f_this_values))), (a_this_word, .inl (cI, n_this_word, .inl f_this_word))]) [0, 1, 2, 8, 9] (by decide) rfl
    have hFc := va_free (wc := [(a_this, .inr (4, [.int (0 : Int32), .int i_this_kind, .int i_this_form, .ref a_this_bits, .ref a_this_values, .ref a_this_has, .int i_this_fields, .int i_this_checks, .int i_this_symbols, .ref a_this_row, .int i_this_size, .ref a_this_seen, .int i_this_many, .ref a_this_told, .int i_this_right, .int i_this_mended, .int i_this_mask, .int i_this_turned, .ref a_this_word, .ref a_this_gone, .ref a_this_lines, .ref a_this_places, .ref a_this_square])), (a_this_bits, .inl (cI, n_this_bits, .inl f_this_bits)), (a_this_gone, .inl (cZ, n_this_gone, .inl f_this_gone)), (a_this_values, .inl (cJ, n_this_values, .inr (.inl f_this_values))), (a_this_word, .inl (cI, n_this_word, .inl f_this_word))]) hD hS hA [0, 1, 2, 8, 9] rfl
    refine va_callv (va_runV (As := []) (rest := []) ⟨hx, hb, hml, hown, hts⟩ (c_X5_pack l dC dI cI cJ cZ H.size a_this a_this_bits a_this_values a_this_has a_this_row a_this_seen a_this_told a_this_word a_this_gone a_this_lines a_this_places a_this_square (0 : Int32) i_this_kind i_this_form i_this_fields i_this_checks i_this_symbols i_this_size i_this_many i_this_right i_this_mended i_this_mask i_this_turned n_this_bits n_this_gone n_this_values n_this_word f_this_bits f_this_gone f_this_values f_this_word y15) (cwV 0 hts gX5_make_X5_pack rfl rfl rfl (by decide +kernel) ⟨Nat.le_of_ble_eq_true rfl, Nat.le_of_ble_eq_true rfl⟩) ⟨fun a U g mk q => by obtain ⟨q0, q1, qP, qK, qD⟩ := q; exact ⟨q0, q1, qP, va_K.moved (u := U) (U := U.calling g mk a) (Vm.Alike.refl U.vm) qK, qD⟩, va_recv hK hPc (ci := 4) (q0 := 0) rfl rfl, fun U hU hW => ⟨rfl, by rw [hU], by rw [hU]; exact hPc, va_K.moved hW.alike hK, hDc.weaken (fun _ _ _ _ => trivial)⟩⟩ rfl rfl hl.1 rfl (lv_room (Nat.le_of_ble_eq_true rfl)) dX5_make_15 ⟨Nat.zero_le _, Nat.zero_le _⟩) hS (fun q _ h => hFc q h) hFc (fun u9 t9 H1 locs ht9 hvm9 hw9 hB9 hz9 hk9 hS => ?_)
    obtain ⟨hP1, hK1, hD1⟩ := hB9
    rw [ht9] at hP1
    have hw9 := hw9.symm
    subst hw9
    obtain ⟨hP, hD⟩ := va_join (wr := [(a_this_has, .inl (cZ, n_this_has, .inl f_this_has)), (a_this_lines, .inl (cI, n_this_lines, .inl f_this_lines)), (a_this_places, .inl (cI, n_this_places, .inl f_this_places)), (a_this_row, .inl (cI, n_this_row, .inl f_this_row)), (a_this_square, .inl (cI, n_this_square, .inl f_this_square))]) (w1 := [(a_this, .inr (4, [.int (0 : Int32), .int i_this_kind, .int i_this_form, .ref a_this_bits, .ref a_this_values, .ref a_this_has, .int i_this_fields, .int i_this_checks, .int i_this_symbols, .ref a_this_row, .int i_this_size, .ref a_this_seen, .int i_this_many, .ref a_this_told, .int i_this_right, .int i_this_mended, .int i_this_mask, .int i_this_turned, .ref a_this_word, .ref a_this_gone, .ref a_this_lines, .ref a_this_places, .ref a_this_square])), (a_this_bits, .inl (cI, n_this_bits, .inl f_this_bits)), (a_this_gone, .inl (cZ, n_this_gone, .inl f2)), (a_this_values, .inl (cJ, n_this_values, .inr (.inl f_this_values))), (a_this_word, .inl (cI, n_this_word, .inl f3))]) hP hD [0, 1, 2, 8, 9] [3, 4, 5, 6, 7] rfl rfl (by decide) (by decide) hk9 hFc hP1 hD1
    generalize H1 = H at hP hS ⊢
    have hP := hP.sub (ws' := [(a_this, .inr (4, [.int (0 : Int32), .int i_this_kind, .int i_this_form, .ref a_this_bits, .ref a_this_values, .ref a_this_has, .int i_this_fields, .int i_this_checks, .int i_this_symbols, .ref a_this_row, .int i_this_size, .ref a_this_seen, .int i_this_many, .ref a_this_told, .int i_this_right, .int i_this_mended, .int i_this_mask, .int i_this_turned, .ref a_this_word, .ref a_this_gone, .ref a_this_lines, .ref a_this_places, .ref a_this_square])), (a_this_bits, .inl (cI, n_this_bits, .inl f_this_bits)), (a_this_gone, .inl (cZ, n_this_gone, .inl f2)), (a_this_has, .inl (cZ, n_this_has, .inl f_this_has)), (a_this_lines, .inl (cI, n_this_lines, .inl f_this_lines)), (a_this_places, .inl (cI, n_this_places, .inl f_this_places)), (a_this_row, .inl (cI, n_this_row, .inl f_this_row)), (a_this_square, .inl (cI, n_this_square, .inl f_this_square)), (a_this_values, .inl (cJ, n_this_values, .inr (.inl f_this_values))), (a_this_word, .inl (cI, n_this_word, .inl f3))]) [5, 6, 7, 0, 1, 2, 3, 4, 8, 9] rfl
    have hD := hD.sub (ws' := [(a_this, .inr (4, [.int (0 : Int32), .int i_this_kind, .int i_this_form, .ref a_this_bits, .ref a_this_values, .ref a_this_has, .int i_this_fields, .int i_this_checks, .int i_this_symbols, .ref a_this_row, .int i_this_size, .ref a_this_seen, .int i_this_many, .ref a_this_told, .int i_this_right, .int i_this_mended, .int i_this_mask, .int i_this_turned, .ref a_this_word, .ref a_this_gone, .ref a_this_lines, .ref a_this_places, .ref a_this_square])), (a_this_bits, .inl (cI, n_this_bits, .inl f_this_bits)), (a_this_gone, .inl (cZ, n_this_gone, .inl f2)), (a_this_has, .inl (cZ, n_this_has, .inl f_this_has)), (a_this_lines, .inl (cI, n_this_lines, .inl f_this_lines)), (a_this_places, .inl (cI, n_this_places, .inl f_this_places)), (a_this_row, .inl (cI, n_this_row, .inl f_this_row)), (a_this_square, .inl (cI, n_this_square, .inl f_this_square)), (a_this_values, .inl (cJ, n_this_values, .inr (.inl f_this_values))), (a_this_word, .inl (cI, n_this_word, .inl f3))]) [5, 6, 7, 0, 1, 2, 3, 4, 8, 9] (by decide) rfl
    refine lv_aload_n hx hb dX5_make_18 rfl (lv_at hl 0 rfl) ?_
    obtain ⟨v4, f5, f6, f7, y19, h⟩ := im_b4_u h
    have hPc := hP.sub (ws' := [(a_this, .inr (4, [.int (0 : Int32), .int i_this_kind, .int i_this_form, .ref a_this_bits, .ref a_this_values, .ref a_this_has, .int i_this_fields, .int i_this_checks, .int i_this_symbols, .ref a_this_row, .int i_this_size, .ref a_this_seen, .int i_this_many, .ref a_this_told, .int i_this_right, .int i_this_mended, .int i_this_mask, .int i_this_turned, .ref a_this_word, .ref a_this_gone, .ref a_this_lines, .ref a_this_places, .ref a_this_square])), (a_this_gone, .inl (cZ, n_this_gone, .inl f2)), (a_this_lines, .inl (cI, n_this_lines, .inl f_this_lines)), (a_this_places, .inl (cI, n_this_places, .inl f_this_places)), (a_this_word, .inl (cI, n_this_word, .inl f3))]) [0, 2, 4, 5, 9] rfl
    have hDc := hD.sub (ws' := [(a_this, .inr (4, [.int (0 : Int32), .int i_this_kind, .int i_this_form, .ref a_this_bits, .ref a_this_values, .ref a_this_has, .int i_this_fields, .int i_this_checks, .int i_this_symbols, .ref a_this_row, .int i_this_size, .ref a_this_seen, .int i_this_many, .ref a_this_told, .int i_this_right, .int i_this_mended, .int i_this_mask, .int i_this_turned, .ref a_this_word, .ref a_this_gone, .ref a_this_lines, .ref a_this_places, .ref a_this_square])), (a_this_gone, .inl (cZ, n_this_gone, .inl f2)), (a_this_lines, .inl (cI, n_this_lines, .inl f_this_lines)), (a_this_places, .inl (cI, n_this_places, .inl f_this_places)), (a_this_word, .inl (cI, n_this_word, .inl f3))]) [0, 2, 4, 5, 9] (by decide) rfl
    have hFc := va_free (wc := [(a_this, .inr (4, [.int (0 : Int32), .int i_this_kind, .int i_this_form, .ref a_this_bits, .ref a_this_values, .ref a_this_has, .int i_this_fields, .int i_this_checks, .int i_this_symbols, .ref a_this_row, .int i_this_size, .ref a_this_seen, .int i_this_many, .ref a_this_told, .int i_this_right, .int i_this_mended, .int i_this_mask, .int i_this_turned, .ref a_this_word, .ref a_this_gone, .ref a_this_lines, .ref a_this_places, .ref a_this_square])), (a_this_gone, .inl (cZ, n_this_gone, .inl f2)), (a_this_lines, .inl (cI, n_this_lines, .inl f_this_lines)), (a_this_places, .inl (cI, n_this_places, .inl f_this_places)), (a_this_word, .inl (cI, n_this_word, .inl f3))]) hD hS hA [0, 2, 4, 5, 9] rfl
    refine va_calli (va_runV (As := []) (rest := []) ⟨hx, hb, hml, hown, hts⟩ (c_X5_mend l dC dI cI cJ cZ H.size a_this a_this_bits a_this_values a_this_has a_this_row a_this_seen a_this_told a_this_word a_this_gone a_this_lines a_this_places a_this_square (0 : Int32) i_this_kind i_this_form i_this_fields i_this_checks i_this_symbols i_this_size i_this_many i_this_right i_this_mended i_this_mask i_this_turned n_this_gone n_this_lines n_this_places n_this_word f2 f_this_lines f_this_places f3 y19) (cwV 0 hts gX5_make_X5_mend rfl rfl rfl (by decide +kernel) ⟨Nat.le_of_ble_eq_true rfl, Nat.le_of_ble_eq_true rfl⟩) ⟨fun a U g mk q => by obtain ⟨q0, q1, qP, qK, qD⟩ := q; exact ⟨q0, q1, qP, va_K.moved (u := U) (U := U.calling g mk a) (Vm.Alike.refl U.vm) qK, qD⟩, va_recv hK hPc (ci := 4) (q0 := 0) rfl rfl, fun U hU hW => ⟨rfl, by rw [hU], by rw [hU]; exact hPc, va_K.moved hW.alike hK, hDc.weaken (fun _ _ _ _ => trivial)⟩⟩ rfl rfl hl.1 rfl (lv_room (Nat.le_of_ble_eq_true rfl)) dX5_make_19 ⟨Nat.zero_le _, Nat.zero_le _⟩) hS (fun q _ h => hFc q h) hFc (fun r9 u9 t9 H1 locs ht9 hvm9 hw9 hB9 hz9 hk9 hS => ?_)
    obtain ⟨hP1, hK1, hD1⟩ := hB9
    rw [ht9] at hP1
    obtain ⟨e1, e2⟩ := Prod.mk.inj hw9
    have e1 := e1.symm
    have e2 := e2.symm
    subst e1
    subst e2
    obtain ⟨hP, hD⟩ := va_join (wr := [(a_this_bits, .inl (cI, n_this_bits, .inl f_this_bits)), (a_this_has, .inl (cZ, n_this_has, .inl f_this_has)), (a_this_row, .inl (cI, n_this_row, .inl f_this_row)), (a_this_square, .inl (cI, n_this_square, .inl f_this_square)), (a_this_values, .inl (cJ, n_this_values, .inr (.inl f_this_values)))]) (w1 := [(a_this, .inr (4, [.int (0 : Int32), .int i_this_kind, .int i_this_form, .ref a_this_bits, .ref a_this_values, .ref a_this_has, .int i_this_fields, .int i_this_checks, .int i_this_symbols, .ref a_this_row, .int i_this_size, .ref a_this_seen, .int i_this_many, .ref a_this_told, .int i_this_right, .int i_this_mended, .int i_this_mask, .int i_this_turned, .ref a_this_word, .ref a_this_gone, .ref a_this_lines, .ref a_this_places, .ref a_this_square])), (a_this_gone, .inl (cZ, n_this_gone, .inl f2)), (a_this_lines, .inl (cI, n_this_lines, .inl f5)), (a_this_places, .inl (cI, n_this_places, .inl f6)), (a_this_word, .inl (cI, n_this_word, .inl f7))]) hP hD [0, 2, 4, 5, 9] [1, 3, 6, 7, 8] rfl rfl (by decide) (by decide) hk9 hFc hP1 hD1
    generalize H1 = H at hP hS ⊢
    have hP := hP.sub (ws' := [(a_this, .inr (4, [.int (0 : Int32), .int i_this_kind, .int i_this_form, .ref a_this_bits, .ref a_this_values, .ref a_this_has, .int i_this_fields, .int i_this_checks, .int i_this_symbols, .ref a_this_row, .int i_this_size, .ref a_this_seen, .int i_this_many, .ref a_this_told, .int i_this_right, .int i_this_mended, .int i_this_mask, .int i_this_turned, .ref a_this_word, .ref a_this_gone, .ref a_this_lines, .ref a_this_places, .ref a_this_square])), (a_this_bits, .inl (cI, n_this_bits, .inl f_this_bits)), (a_this_gone, .inl (cZ, n_this_gone, .inl f2)), (a_this_has, .inl (cZ, n_this_has, .inl f_this_has)), (a_this_lines, .inl (cI, n_this_lines, .inl f5)), (a_this_places, .inl (cI, n_this_places, .inl f6)), (a_this_row, .inl (cI, n_this_row, .inl f_this_row)), (a_this_square, .inl (cI, n_this_square, .inl f_this_square)), (a_this_values, .inl (cJ, n_this_values, .inr (.inl f_this_values))), (a_this_word, .inl (cI, n_this_word, .inl f7))]) [5, 0, 6, 1, 7, 8, 2, 3, 4, 9] rfl
    have hD := hD.sub (ws' := [(a_this, .inr (4, [.int (0 : Int32), .int i_this_kind, .int i_this_form, .ref a_this_bits, .ref a_this_values, .ref a_this_has, .int i_this_fields, .int i_this_checks, .int i_this_symbols, .ref a_this_row, .int i_this_size, .ref a_this_seen, .int i_this_many, .ref a_this_told, .int i_this_right, .int i_this_mended, .int i_this_mask, .int i_this_turned, .ref a_this_word, .ref a_this_gone, .ref a_this_lines, .ref a_this_places, .ref a_this_square])), (a_this_bits, .inl (cI, n_this_bits, .inl f_this_bits)), (a_this_gone, .inl (cZ, n_this_gone, .inl f2)), (a_this_has, .inl (cZ, n_this_has, .inl f_this_has)), (a_this_lines, .inl (cI, n_this_lines, .inl f5)), (a_this_places, .inl (cI, n_this_places, .inl f6)), (a_this_row, .inl (cI, n_this_row, .inl f_this_row)), (a_this_square, .inl (cI, n_this_square, .inl f_this_square)), (a_this_values, .inl (cJ, n_this_values, .inr (.inl f_this_values))), (a_this_word, .inl (cI, n_this_word, .inl f7))]) [5, 0, 6, 1, 7, 8, 2, 3, 4, 9] (by decide) rfl
    refine lv_istore_n (lv' := [(1, .int v4), (0, .ref a_this)]) hx hb dX5_make_22 rfl hl (by decide) rfl (fun ls hl => ?_)
    refine lv_aload_n hx hb dX5_make_23 rfl (lv_at hl 1 rfl) ?_
    refine lv_aload_n hx hb dX5_make_24 rfl (lv_at hl 1 rfl) ?_
    obtain ⟨v8, y25, h⟩ := im_b1_u h
    have hPc := hP.sub (ws' := [(a_this, .inr (4, [.int (0 : Int32), .int i_this_kind, .int i_this_form, .ref a_this_bits, .ref a_this_values, .ref a_this_has, .int i_this_fields, .int i_this_checks, .int i_this_symbols, .ref a_this_row, .int i_this_size, .ref a_this_seen, .int i_this_many, .ref a_this_told, .int i_this_right, .int i_this_mended, .int i_this_mask, .int i_this_turned, .ref a_this_word, .ref a_this_gone, .ref a_this_lines, .ref a_this_places, .ref a_this_square]))]) [0] rfl
    refine vp_callSi (W.runV (As := []) (rest := [.ref a_this]) ⟨hx, hb, hml, hown, hts⟩ (c_X5_length l dC dI cI cJ cZ a_this a_this_bits a_this_values a_this_has a_this_row a_this_seen a_this_told a_this_word a_this_gone a_this_lines a_this_places a_this_square (0 : Int32) i_this_kind i_this_form i_this_fields i_this_checks i_this_symbols i_this_size i_this_many i_this_right i_this_mended i_this_mask i_this_turned y25) (cwV 0 hts gX5_make_X5_length rfl rfl rfl (by decide +kernel) ⟨Nat.le_of_ble_eq_true rfl, Nat.le_of_ble_eq_true rfl⟩) ⟨fun a U g mk q => by obtain ⟨q0, qP, qK⟩ := q; exact ⟨q0, qP, va_K.moved (u := U) (U := U.calling g mk a) (Vm.Alike.refl U.vm) qK⟩, va_recv hK hPc (ci := 4) (q0 := 0) rfl rfl, fun U hU hW => ⟨rfl, by rw [hU]; exact hPc, va_K.moved hW.alike hK⟩⟩ rfl rfl hl.1 rfl (lv_room (Nat.le_of_ble_eq_true rfl)) dX5_make_25 ⟨Nat.zero_le _, Nat.zero_le _⟩) (fun w25 ew25 => ?_)
    have ew25 := ew25.symm
    subst ew25
    refine va_put (D := (dC, dI)) (ci := 4) (v := .int v8) (ty := .int) (C := RX5) (T := TX5) (N := 23) hx hb hts hn_X5_make_X5 tyX5 tyX5_ok nmX5 hown hK hP hD hS 0 rfl rfl 10 (by decide) (hts _ fl_X5_make_150) (fun _ h9 => h9) rfl (by decide +kernel) rfl rfl (Nat.le_of_ble_eq_true rfl) dX5_make_28 (fun H locs hP hD hS => ?_)
    have hP : va_P (dC, dI) vwCl [(a_this, .inr (4, [.int (0 : Int32), .int i_this_kind, .int i_this_form, .ref a_this_bits, .ref a_this_values, .ref a_this_has, .int i_this_fields, .int i_this_checks, .int i_this_symbols, .ref a_this_row, .int v8, .ref a_this_seen, .int i_this_many, .ref a_this_told, .int i_this_right, .int i_this_mended, .int i_this_mask, .int i_this_turned, .ref a_this_word, .ref a_this_gone, .ref a_this_lines, .ref a_this_places, .ref a_this_square])), (a_this_bits, .inl (cI, n_this_bits, .inl f_this_bits)), (a_this_gone, .inl (cZ, n_this_gone, .inl f2)), (a_this_has, .inl (cZ, n_this_has, .inl f_this_has)), (a_this_lines, .inl (cI, n_this_lines, .inl f5)), (a_this_places, .inl (cI, n_this_places, .inl f6)), (a_this_row, .inl (cI, n_this_row, .inl f_this_row)), (a_this_square, .inl (cI, n_this_square, .inl f_this_square)), (a_this_values, .inl (cJ, n_this_values, .inr (.inl f_this_values))), (a_this_word, .inl (cI, n_this_word, .inl f7))] H := hP
    have hD : va_D A [(a_this, .inr (4, [.int (0 : Int32), .int i_this_kind, .int i_this_form, .ref a_this_bits, .ref a_this_values, .ref a_this_has, .int i_this_fields, .int i_this_checks, .int i_this_symbols, .ref a_this_row, .int v8, .ref a_this_seen, .int i_this_many, .ref a_this_told, .int i_this_right, .int i_this_mended, .int i_this_mask, .int i_this_turned, .ref a_this_word, .ref a_this_gone, .ref a_this_lines, .ref a_this_places, .ref a_this_square])), (a_this_bits, .inl (cI, n_this_bits, .inl f_this_bits)), (a_this_gone, .inl (cZ, n_this_gone, .inl f2)), (a_this_has, .inl (cZ, n_this_has, .inl f_this_has)), (a_this_lines, .inl (cI, n_this_lines, .inl f5)), (a_this_places, .inl (cI, n_this_places, .inl f6)), (a_this_row, .inl (cI, n_this_row, .inl f_this_row)), (a_this_square, .inl (cI, n_this_square, .inl f_this_square)), (a_this_values, .inl (cJ, n_this_values, .inr (.inl f_this_values))), (a_this_word, .inl (cI, n_this_word, .inl f7))] := hD
    refine lv_aload_n hx hb dX5_make_31 rfl (lv_at hl 1 rfl) ?_
    refine va_get (D := (dC, dI)) (ci := 4) (v := .int i_this_kind) (C := RX5) (T := TX5) (N := 23) hx hb hts hn_X5_make_X5 hown hK hP 0 rfl rfl 1 (by decide) (hts _ fl_X5_make_56) (fun _ h9 => h9) rfl dX5_make_32 ?_
    refine lv_iconst (v := (2 : Int32)) hx hb dX5_make_35 (by decide) ?_
    refine lv_icmp_ne (tgt := 48) hx hb dX5_make_36 (by decide) (fun c36 => ?_) (fun c36 => ?_)
    · replace h := im_f c36 h
      refine lv_iconst (v := (0 : Int32)) hx hb dX5_make_48 (by decide) ?_
      refine lv_istore_n (lv' := [(2, .int (0 : Int32)), (1, .int v4), (0, .ref a_this)]) hx hb dX5_make_49 rfl hl (by decide) rfl (fun ls hl => ?_)
      refine im_j1_u (P := fun f9 => ∀ (H : Heap) (locs : List Loc) (ls : Array Slot), va_P (dC, dI) vwCl [(a_this, .inr (4, [.int (0 : Int32), .int i_this_kind, .int i_this_form, .ref a_this_bits, .ref a_this_values, .ref a_this_has, .int i_this_fields, .int i_this_checks, .int i_this_symbols, .ref a_this_row, .int v8, .ref a_this_seen, .int i_this_many, .ref a_this_told, .int i_this_right, .int i_this_mended, .int i_this_mask, .int i_this_turned, .ref a_this_word, .ref a_this_gone, .ref a_this_lines, .ref a_this_places, .ref a_this_square])), (a_this_bits, .inl (cI, n_this_bits, .inl f_this_bits)), (a_this_gone, .inl (cZ, n_this_gone, .inl f2)), (a_this_has, .inl (cZ, n_this_has, .inl f_this_has)), (a_this_lines, .inl (cI, n_this_lines, .inl f5)), (a_this_places, .inl (cI, n_this_places, .inl f6)), (a_this_row, .inl (cI, n_this_row, .inl f9)), (a_this_square, .inl (cI, n_this_square, .inl f_this_square)), (a_this_values, .inl (cJ, n_this_values, .inr (.inl f_this_values))), (a_this_word, .inl (cI, n_this_word, .inl f7))] H → va_D A [(a_this, .inr (4, [.int (0 : Int32), .int i_this_kind, .int i_this_form, .ref a_this_bits, .ref a_this_values, .ref a_this_has, .int i_this_fields, .int i_this_checks, .int i_this_symbols, .ref a_this_row, .int v8, .ref a_this_seen, .int i_this_many, .ref a_this_told, .int i_this_right, .int i_this_mended, .int i_this_mask, .int i_this_turned, .ref a_this_word, .ref a_this_gone, .ref a_this_lines, .ref a_this_places, .ref a_this_square])), (a_this_bits, .inl (cI, n_this_bits, .inl f_this_bits)), (a_this_gone, .inl (cZ, n_this_gone, .inl f2)), (a_this_has, .inl (cZ, n_this_has, .inl f_this_has)), (a_this_lines, .inl (cI, n_this_lines, .inl f5)), (a_this_places, .inl (cI, n_this_places, .inl f6)), (a_this_row, .inl (cI, n_this_row, .inl f9)), (a_this_square, .inl (cI, n_this_square, .inl f_this_square)), (a_this_values, .inl (cJ, n_this_values, .inr (.inl f_this_values))), (a_this_word, .inl (cI, n_this_word, .inl f7))] → va_S A s.heap H locs → lv_has ls 5 [(0, .ref a_this)] → W p l e (headSpec wsX5_make rm_X5_make).room s m args below meth c H locs 0 0 Q (F0 m 141 ls [])) h (fun f9 h H locs ls hP hD hS hl => ?_) (fun K10 J10 h => ?_)
      · refine lv_aload_n hx hb dX5_make_141 rfl (lv_at hl 0 rfl) ?_
        refine va_get (D := (dC, dI)) (ci := 4) (v := .int v8) (C := RX5) (T := TX5) (N := 23) hx hb hts hn_X5_make_X5 hown hK hP 0 rfl rfl 10 (by decide) (hts _ fl_X5_make_150) (fun _ h9 => h9) rfl dX5_make_142 ?_
        rw [eQ]
        exact W.iret (v := v8) hx hb hr (fun t ht hW => ⟨⟨_, (i_this_mask, v8, (0 : Int32), f2, f5, f6, f9, f_this_square, f7), rfl, Option.some.inj h, by rw [ht]; exact hP, va_K.moved hW.alike hK, hD⟩, hS.F ht⟩) hS.2.2 dX5_make_145
      · have Lp13 : ∀ (n : Nat) (v11 : Int32) (f12 : Nat → Int32), im_X5_make_L50 v8 K10 n_this_row i_this_kind i_this_symbols i_this_form i_this_checks n_this_word f7 n v11 f12 = some r → ∀ (H : Heap) (locs : List Loc) (ls : Array Slot), va_P (dC, dI) vwCl [(a_this, .inr (4, [.int (0 : Int32), .int i_this_kind, .int i_this_form, .ref a_this_bits, .ref a_this_values, .ref a_this_has, .int i_this_fields, .int i_this_checks, .int i_this_symbols, .ref a_this_row, .int v8, .ref a_this_seen, .int i_this_many, .ref a_this_told, .int i_this_right, .int i_this_mended, .int i_this_mask, .int i_this_turned, .ref a_this_word, .ref a_this_gone, .ref a_this_lines, .ref a_this_places, .ref a_this_square])), (a_this_bits, .inl (cI, n_this_bits, .inl f_this_bits)), (a_this_gone, .inl (cZ, n_this_gone, .inl f2)), (a_this_has, .inl (cZ, n_this_has, .inl f_this_has)), (a_this_lines, .inl (cI, n_this_lines, .inl f5)), (a_this_places, .inl (cI, n_this_places, .inl f6)), (a_this_row, .inl (cI, n_this_row, .inl f12)), (a_this_square, .inl (cI, n_this_square, .inl f_this_square)), (a_this_values, .inl (cJ, n_this_values, .inr (.inl f_this_values))), (a_this_word, .inl (cI, n_this_word, .inl f7))] H → va_D A [(a_this, .inr (4, [.int (0 : Int32), .int i_this_kind, .int i_this_form, .ref a_this_bits, .ref a_this_values, .ref a_this_has, .int i_this_fields, .int i_this_checks, .int i_this_symbols, .ref a_this_row, .int v8, .ref a_this_seen, .int i_this_many, .ref a_this_told, .int i_this_right, .int i_this_mended, .int i_this_mask, .int i_this_turned, .ref a_this_word, .ref a_this_gone, .ref a_this_lines, .ref a_this_places, .ref a_this_square])), (a_this_bits, .inl (cI, n_this_bits, .inl f_this_bits)), (a_this_gone, .inl (cZ, n_this_gone, .inl f2)), (a_this_has, .inl (cZ, n_this_has, .inl f_this_has)), (a_this_lines, .inl (cI, n_this_lines, .inl f5)), (a_this_places, .inl (cI, n_this_places, .inl f6)), (a_this_row, .inl (cI, n_this_row, .inl f12)), (a_this_square, .inl (cI, n_this_square, .inl f_this_square)), (a_this_values, .inl (cJ, n_this_values, .inr (.inl f_this_values))), (a_this_word, .inl (cI, n_this_word, .inl f7))] → va_S A s.heap H locs → lv_has ls 5 [(0, .ref a_this), (2, .int v11)] → W p l e (headSpec wsX5_make rm_X5_make).room s m args below meth c H locs 0 0 Q (F0 m 50 ls []) := by
          intro n
          induction n with
          | zero => intro v11 f12 h; rw [im_X5_make_L50] at h; cases h
          | succ n ih =>
            intro v11 f12 h H locs ls hP hD hS hl
            rw [im_X5_make_L50] at h
            refine lv_iload_n hx hb dX5_make_50 rfl (lv_at hl 1 rfl) ?_
            refine lv_aload_n hx hb dX5_make_51 rfl (lv_at hl 0 rfl) ?_
            refine va_get (D := (dC, dI)) (ci := 4) (v := .int v8) (C := RX5) (T := TX5) (N := 23) hx hb hts hn_X5_make_X5 hown hK hP 0 rfl rfl 10 (by decide) (hts _ fl_X5_make_150) (fun _ h9 => h9) rfl dX5_make_52 ?_
            refine lv_icmp_ge (tgt := 141) hx hb dX5_make_55 (by decide) (fun c55 => ?_) (fun c55 => ?_)
            · replace h := im_t c55 h
              exact J10 f12 h _ _ _ hP hD hS (lv_sub hl [0] rfl)
            · replace h := im_f c55 h
              refine im_j1_u (P := fun v14 => ∀ (H : Heap) (locs : List Loc) (ls : Array Slot), va_P (dC, dI) vwCl [(a_this, .inr (4, [.int (0 : Int32), .int i_this_kind, .int i_this_form, .ref a_this_bits, .ref a_this_values, .ref a_this_has, .int i_this_fields, .int i_this_checks, .int i_this_symbols, .ref a_this_row, .int v8, .ref a_this_seen, .int i_this_many, .ref a_this_told, .int i_this_right, .int i_this_mended, .int i_this_mask, .int i_this_turned, .ref a_this_word, .ref a_this_gone, .ref a_this_lines, .ref a_this_places, .ref a_this_square])), (a_this_bits, .inl (cI, n_this_bits, .inl f_this_bits)), (a_this_gone, .inl (cZ, n_this_gone, .inl f2)), (a_this_has, .inl (cZ, n_this_has, .inl f_this_has)), (a_this_lines, .inl (cI, n_this_lines, .inl f5)), (a_this_places, .inl (cI, n_this_places, .inl f6)), (a_this_row, .inl (cI, n_this_row, .inl f12)), (a_this_square, .inl (cI, n_this_square, .inl f_this_square)), (a_this_values, .inl (cJ, n_this_values, .inr (.inl f_this_values))), (a_this_word, .inl (cI, n_this_word, .inl f7))] H → va_D A [(a_this, .inr (4, [.int (0 : Int32), .int i_this_kind, .int i_this_form, .ref a_this_bits, .ref a_this_values, .ref a_this_has, .int i_this_fields, .int i_this_checks, .int i_this_symbols, .ref a_this_row, .int v8, .ref a_this_seen, .int i_this_many, .ref a_this_told, .int i_this_right, .int i_this_mended, .int i_this_mask, .int i_this_turned, .ref a_this_word, .ref a_this_gone, .ref a_this_lines, .ref a_this_places, .ref a_this_square])), (a_this_bits, .inl (cI, n_this_bits, .inl f_this_bits)), (a_this_gone, .inl (cZ, n_this_gone, .inl f2)), (a_this_has, .inl (cZ, n_this_has, .inl f_this_has)), (a_this_lines, .inl (cI, n_this_lines, .inl f5)), (a_this_places, .inl (cI, n_this_places, .inl f6)), (a_this_row, .inl (cI, n_this_row, .inl f12)), (a_this_square, .inl (cI, n_this_square, .inl f_this_square)), (a_this_values, .inl (cJ, n_this_values, .inr (.inl f_this_values))), (a_this_word, .inl (cI, n_this_word, .inl f7))] → va_S A s.heap H locs → lv_has ls 5 [(0, .ref a_this), (2, .int v11)] → W p l e (headSpec wsX5_make rm_X5_make).room s m args below meth c H locs 0 0 Q (F0 m 125 ls [.int v14])) h (fun v14 h H locs ls hP hD hS hl => ?_) (fun K15 J15 h => ?_)
              · refine lv_istore (lv' := [(4, .int v14), (0, .ref a_this), (2, .int v11)]) hx hb dX5_make_125 hl (by decide) rfl (fun ls hl => ?_)
                refine lv_aload_n hx hb dX5_make_127 rfl (lv_at hl 1 rfl) ?_
                refine va_get (D := (dC, dI)) (ci := 4) (v := .ref a_this_row) (C := RX5) (T := TX5) (N := 23) hx hb hts hn_X5_make_X5 hown hK hP 0 rfl rfl 9 (by decide) (hts _ fl_X5_make_21) (fun _ h9 => h9) rfl dX5_make_128 ?_
                refine lv_iload_n hx hb dX5_make_131 rfl (lv_at hl 2 rfl) ?_
                refine lv_iload hx hb dX5_make_132 (lv_at hl 0 rfl) ?_
                obtain ⟨q134, h⟩ := im_st_u h
                refine va_iast hx hb hK hP hD hS 6 0 rfl rfl q134 dX5_make_134 (fun H locs hP hD hS => ?_)
                obtain ⟨f16, ef16⟩ : ∃ g : Nat → Int32, g = upd f12 v11.toNatClampNeg v14 := ⟨_, rfl⟩
                replace h := h f16 ef16
                rw [← ef16] at hP hD
                have hP : va_P (dC, dI) vwCl [(a_this, .inr (4, [.int (0 : Int32), .int i_this_kind, .int i_this_form, .ref a_this_bits, .ref a_this_values, .ref a_this_has, .int i_this_fields, .int i_this_checks, .int i_this_symbols, .ref a_this_row, .int v8, .ref a_this_seen, .int i_this_many, .ref a_this_told, .int i_this_right, .int i_this_mended, .int i_this_mask, .int i_this_turned, .ref a_this_word, .ref a_this_gone, .ref a_this_lines, .ref a_this_places, .ref a_this_square])), (a_this_bits, .inl (cI, n_this_bits, .inl f_this_bits)), (a_this_gone, .inl (cZ, n_this_gone, .inl f2)), (a_this_has, .inl (cZ, n_this_has, .inl f_this_has)), (a_this_lines, .inl (cI, n_this_lines, .inl f5)), (a_this_places, .inl (cI, n_this_places, .inl f6)), (a_this_row, .inl (cI, n_this_row, .inl f16)), (a_this_square, .inl (cI, n_this_square, .inl f_this_square)), (a_this_values, .inl (cJ, n_this_values, .inr (.inl f_this_values))), (a_this_word, .inl (cI, n_this_word, .inl f7))] H := hP
                have hD : va_D A [(a_this, .inr (4, [.int (0 : Int32), .int i_this_kind, .int i_this_form, .ref a_this_bits, .ref a_this_values, .ref a_this_has, .int i_this_fields, .int i_this_checks, .int i_this_symbols, .ref a_this_row, .int v8, .ref a_this_seen, .int i_this_many, .ref a_this_told, .int i_this_right, .int i_this_mended, .int i_this_mask, .int i_this_turned, .ref a_this_word, .ref a_this_gone, .ref a_this_lines, .ref a_this_places, .ref a_this_square])), (a_this_bits, .inl (cI, n_this_bits, .inl f_this_bits)), (a_this_gone, .inl (cZ, n_this_gone, .inl f2)), (a_this_has, .inl (cZ, n_this_has, .inl f_this_has)), (a_this_lines, .inl (cI, n_this_lines, .inl f5)), (a_this_places, .inl (cI, n_this_places, .inl f6)), (a_this_row, .inl (cI, n_this_row, .inl f16)), (a_this_square, .inl (cI, n_this_square, .inl f_this_square)), (a_this_values, .inl (cJ, n_this_values, .inr (.inl f_this_values))), (a_this_word, .inl (cI, n_this_word, .inl f7))] := hD
                obtain ⟨v17, ev17⟩ : ∃ y : Int32, y = (v11 + (1 : Int32)) := ⟨_, rfl⟩
                replace h := im_lt_u h v17 ev17
                refine lv_iinc (v := v17) (lv' := [(2, .int v17), (4, .int v14), (0, .ref a_this)]) hx hb dX5_make_135 hl (k := 2) rfl (by rw [ev17]; rfl) (by decide) rfl (fun ls hl => ?_)
                refine lv_goto (tgt := 50) hx hb dX5_make_138 (by decide) ?_
                exact ih v17 f16 h _ _ _ hP hD hS (lv_sub hl [2, 0] rfl)
              · refine lv_iload_n hx hb dX5_make_58 rfl (lv_at hl 1 rfl) ?_
                refine lv_iconst (v := (2 : Int32)) hx hb dX5_make_59 (by decide) ?_
                refine lv_isub hx hb dX5_make_60 ?_
                refine lv_topi (fun v18 ev18 => ?_)
                replace h := im_lt_u h v18 ev18
                refine lv_istore_n (lv' := [(3, .int v18), (0, .ref a_this), (2, .int v11)]) hx hb dX5_make_61 rfl hl (by decide) rfl (fun ls hl => ?_)
                refine lv_aload_n hx hb dX5_make_62 rfl (lv_at hl 1 rfl) ?_
                refine lv_iload_n hx hb dX5_make_63 rfl (lv_at hl 2 rfl) ?_
                obtain ⟨v19, y64, h⟩ := im_b1_u h
                have hPc := hP.sub (ws' := [(a_this, .inr (4, [.int (0 : Int32), .int i_this_kind, .int i_this_form, .ref a_this_bits, .ref a_this_values, .ref a_this_has, .int i_this_fields, .int i_this_checks, .int i_this_symbols, .ref a_this_row, .int v8, .ref a_this_seen, .int i_this_many, .ref a_this_told, .int i_this_right, .int i_this_mended, .int i_this_mask, .int i_this_turned, .ref a_this_word, .ref a_this_gone, .ref a_this_lines, .ref a_this_places, .ref a_this_square]))]) [0] rfl
                refine vp_callSi (W.runV (As := [.int v11]) (rest := []) ⟨hx, hb, hml, hown, hts⟩ (c_X5_frame l dC dI cI cJ cZ a_this a_this_bits a_this_values a_this_has a_this_row a_this_seen a_this_told a_this_word a_this_gone a_this_lines a_this_places a_this_square (0 : Int32) i_this_kind i_this_form i_this_fields i_this_checks i_this_symbols v8 i_this_many i_this_right i_this_mended i_this_mask i_this_turned v11 y64) (cwV 1 hts gX5_make_X5_frame rfl rfl rfl (by decide +kernel) ⟨Nat.le_of_ble_eq_true rfl, Nat.le_of_ble_eq_true rfl⟩) ⟨fun a U g mk q => by obtain ⟨q0, qP, qK⟩ := q; exact ⟨q0, qP, va_K.moved (u := U) (U := U.calling g mk a) (Vm.Alike.refl U.vm) qK⟩, va_recv hK hPc (ci := 4) (q0 := 0) rfl rfl, fun U hU hW => ⟨rfl, by rw [hU]; exact hPc, va_K.moved hW.alike hK⟩⟩ rfl rfl hl.1 rfl (lv_room (Nat.le_of_ble_eq_true rfl)) dX5_make_64 ⟨Nat.zero_le _, Nat.zero_le _⟩) (fun w64 ew64 => ?_)
                have ew64 := ew64.symm
                subst ew64
                refine lv_iconst (v := (-1 : Int32)) hx hb dX5_make_67 (by decide) ?_
                refine lv_icmp_eq (tgt := 79) hx hb dX5_make_68 (by decide) (fun c68 => ?_) (fun c68 => ?_)
                · replace h := im_t c68 h
                  refine lv_aload_n hx hb dX5_make_79 rfl (lv_at hl 1 rfl) ?_
                  refine va_get (D := (dC, dI)) (ci := 4) (v := .int i_this_kind) (C := RX5) (T := TX5) (N := 23) hx hb hts hn_X5_make_X5 hown hK hP 0 rfl rfl 1 (by decide) (hts _ fl_X5_make_56) (fun _ h9 => h9) rfl dX5_make_80 ?_
                  refine lv_iconst (v := (3 : Int32)) hx hb dX5_make_83 (by decide) ?_
                  refine lv_icmp_ne (tgt := 107) hx hb dX5_make_84 (by decide) (fun c84 => ?_) (fun c84 => ?_)
                  · replace h := im_f c84 h
                    refine lv_aload_n hx hb dX5_make_107 rfl (lv_at hl 1 rfl) ?_
                    refine va_get (D := (dC, dI)) (ci := 4) (v := .ref a_this_word) (C := RX5) (T := TX5) (N := 23) hx hb hts hn_X5_make_X5 hown hK hP 0 rfl rfl 18 (by decide) (hts _ fl_X5_make_37) (fun _ h9 => h9) rfl dX5_make_108 ?_
                    refine lv_iload_n hx hb dX5_make_111 rfl (lv_at hl 0 rfl) ?_
                    refine lv_iconst (v := (3 : Int32)) hx hb dX5_make_112 (by decide) ?_
                    refine lv_idiv hx hb dX5_make_113 (by decide) ?_
                    refine lv_topi (fun v20 ev20 => ?_)
                    replace h := im_lt_u h v20 ev20
                    obtain ⟨q114, h⟩ := im_ld_u h
                    refine va_iald hx hb hK hP 9 0 rfl rfl q114 dX5_make_114 ?_
                    refine lv_topi (fun v21 ev21 => ?_)
                    replace h := h v21 ev21
                    refine lv_iconst (v := (4 : Int32)) hx hb dX5_make_115 (by decide) ?_
                    refine lv_iload_n hx hb dX5_make_116 rfl (lv_at hl 0 rfl) ?_
                    refine lv_iconst (v := (3 : Int32)) hx hb dX5_make_117 (by decide) ?_
                    refine lv_irem hx hb dX5_make_118 (by decide) ?_
                    refine lv_topi (fun v22 ev22 => ?_)
                    replace h := im_lt_u h v22 ev22
                    refine lv_iconst (v := (2 : Int32)) hx hb dX5_make_119 (by decide) ?_
                    refine lv_imul hx hb dX5_make_120 ?_
                    refine lv_topi (fun v23 ev23 => ?_)
                    replace h := im_lt_u h v23 ev23
                    refine lv_isub hx hb dX5_make_121 ?_
                    refine lv_topi (fun v24 ev24 => ?_)
                    replace h := im_lt_u h v24 ev24
                    refine lv_ishr hx hb dX5_make_122 ?_
                    refine lv_topi (fun v25 ev25 => ?_)
                    replace h := im_lt_u h v25 ev25
                    refine lv_iconst (v := (3 : Int32)) hx hb dX5_make_123 (by decide) ?_
                    refine lv_iand hx hb dX5_make_124 ?_
                    refine lv_topi (fun v26 ev26 => ?_)
                    replace h := im_lt_u h v26 ev26
                    exact J15 v26 h _ _ _ hP hD hS (lv_sub hl [1, 2] rfl)
                  · replace h := im_t c84 h
                    refine lv_aload_n hx hb dX5_make_87 rfl (lv_at hl 1 rfl) ?_
                    refine lv_iload_n hx hb dX5_make_88 rfl (lv_at hl 0 rfl) ?_
                    refine lv_bipush (v := (6 : Int32)) hx hb dX5_make_89 (by decide) ?_
                    refine lv_idiv hx hb dX5_make_91 (by decide) ?_
                    refine lv_topi (fun v27 ev27 => ?_)
                    replace h := im_lt_u h v27 ev27
                    obtain ⟨v28, y92, h⟩ := im_b1_u h
                    have hPc := hP.sub (ws' := [(a_this, .inr (4, [.int (0 : Int32), .int i_this_kind, .int i_this_form, .ref a_this_bits, .ref a_this_values, .ref a_this_has, .int i_this_fields, .int i_this_checks, .int i_this_symbols, .ref a_this_row, .int v8, .ref a_this_seen, .int i_this_many, .ref a_this_told, .int i_this_right, .int i_this_mended, .int i_this_mask, .int i_this_turned, .ref a_this_word, .ref a_this_gone, .ref a_this_lines, .ref a_this_places, .ref a_this_square])), (a_this_word, .inl (cI, n_this_word, .inl f7))]) [0, 9] rfl
                    refine vp_callSi (W.runV (As := [.int v27]) (rest := []) ⟨hx, hb, hml, hown, hts⟩ (c_X5_signed l dC dI cI cJ cZ a_this a_this_bits a_this_values a_this_has a_this_row a_this_seen a_this_told a_this_word a_this_gone a_this_lines a_this_places a_this_square (0 : Int32) i_this_kind i_this_form i_this_fields i_this_checks i_this_symbols v8 i_this_many i_this_right i_this_mended i_this_mask i_this_turned n_this_word f7 v27 y92) (cwV 1 hts gX5_make_X5_signed rfl rfl rfl (by decide +kernel) ⟨Nat.le_of_ble_eq_true rfl, Nat.le_of_ble_eq_true rfl⟩) ⟨fun a U g mk q => by obtain ⟨q0, qP, qK⟩ := q; exact ⟨q0, qP, va_K.moved (u := U) (U := U.calling g mk a) (Vm.Alike.refl U.vm) qK⟩, va_recv hK hPc (ci := 4) (q0 := 0) rfl rfl, fun U hU hW => ⟨rfl, by rw [hU]; exact hPc, va_K.moved hW.alike hK⟩⟩ rfl rfl hl.1 rfl (lv_room (Nat.le_of_ble_eq_true rfl)) dX5_make_92 ⟨Nat.zero_le _, Nat.zero_le _⟩) (fun w92 ew92 => ?_)
                    have ew92 := ew92.symm
                    subst ew92
                    refine lv_iconst (v := (5 : Int32)) hx hb dX5_make_95 (by decide) ?_
                    refine lv_iload_n hx hb dX5_make_96 rfl (lv_at hl 0 rfl) ?_
                    refine lv_bipush (v := (6 : Int32)) hx hb dX5_make_97 (by decide) ?_
                    refine lv_irem hx hb dX5_make_99 (by decide) ?_
                    refine lv_topi (fun v29 ev29 => ?_)
                    replace h := im_lt_u h v29 ev29
                    refine lv_isub hx hb dX5_make_100 ?_
                    refine lv_topi (fun v30 ev30 => ?_)
                    replace h := im_lt_u h v30 ev30
                    refine lv_ishr hx hb dX5_make_101 ?_
                    refine lv_topi (fun v31 ev31 => ?_)
                    replace h := im_lt_u h v31 ev31
                    refine lv_iconst (v := (1 : Int32)) hx hb dX5_make_102 (by decide) ?_
                    refine lv_iand hx hb dX5_make_103 ?_
                    refine lv_topi (fun v32 ev32 => ?_)
                    replace h := im_lt_u h v32 ev32
                    refine lv_goto (tgt := 125) hx hb dX5_make_104 (by decide) ?_
                    exact J15 v32 h _ _ _ hP hD hS (lv_sub hl [1, 2] rfl)
                · replace h := im_f c68 h
                  refine lv_aload_n hx hb dX5_make_71 rfl (lv_at hl 1 rfl) ?_
                  refine lv_iload_n hx hb dX5_make_72 rfl (lv_at hl 2 rfl) ?_
                  obtain ⟨v33, y73, h⟩ := im_b1_u h
                  have hPc := hP.sub (ws' := [(a_this, .inr (4, [.int (0 : Int32), .int i_this_kind, .int i_this_form, .ref a_this_bits, .ref a_this_values, .ref a_this_has, .int i_this_fields, .int i_this_checks, .int i_this_symbols, .ref a_this_row, .int v8, .ref a_this_seen, .int i_this_many, .ref a_this_told, .int i_this_right, .int i_this_mended, .int i_this_mask, .int i_this_turned, .ref a_this_word, .ref a_this_gone, .ref a_this_lines, .ref a_this_places, .ref a_this_square]))]) [0] rfl
                  refine vp_callSi (W.runV (As := [.int v11]) (rest := []) ⟨hx, hb, hml, hown, hts⟩ (c_X5_frame l dC dI cI cJ cZ a_this a_this_bits a_this_values a_this_has a_this_row a_this_seen a_this_told a_this_word a_this_gone a_this_lines a_this_places a_this_square (0 : Int32) i_this_kind i_this_form i_this_fields i_this_checks i_this_symbols v8 i_this_many i_this_right i_this_mended i_this_mask i_this_turned v11 y73) (cwV 1 hts gX5_make_X5_frame rfl rfl rfl (by decide +kernel) ⟨Nat.le_of_ble_eq_true rfl, Nat.le_of_ble_eq_true rfl⟩) ⟨fun a U g mk q => by obtain ⟨q0, qP, qK⟩ := q; exact ⟨q0, qP, va_K.moved (u := U) (U := U.calling g mk a) (Vm.Alike.refl U.vm) qK⟩, va_recv hK hPc (ci := 4) (q0 := 0) rfl rfl, fun U hU hW => ⟨rfl, by rw [hU]; exact hPc, va_K.moved hW.alike hK⟩⟩ rfl rfl hl.1 rfl (lv_room (Nat.le_of_ble_eq_true rfl)) dX5_make_73 ⟨Nat.zero_le _, Nat.zero_le _⟩) (fun w73 ew73 => ?_)
                  have ew73 := ew73.symm
                  subst ew73
                  refine lv_goto (tgt := 125) hx hb dX5_make_76 (by decide) ?_
                  exact J15 v33 h _ _ _ hP hD hS (lv_sub hl [1, 2] rfl)
        exact Lp13 5000 (0 : Int32) f_this_row h _ _ _ hP hD hS (lv_sub hl [2, 0] rfl)
    · replace h := im_t c36 h
      refine lv_aload_n hx hb dX5_make_39 rfl (lv_at hl 1 rfl) ?_
      obtain ⟨v34, f35, f36, y40, h⟩ := im_b3_u h
      have hPc := hP.sub (ws' := [(a_this, .inr (4, [.int (0 : Int32), .int i_this_kind, .int i_this_form, .ref a_this_bits, .ref a_this_values, .ref a_this_has, .int i_this_fields, .int i_this_checks, .int i_this_symbols, .ref a_this_row, .int v8, .ref a_this_seen, .int i_this_many, .ref a_this_told, .int i_this_right, .int i_this_mended, .int i_this_mask, .int i_this_turned, .ref a_this_word, .ref a_this_gone, .ref a_this_lines, .ref a_this_places, .ref a_this_square])), (a_this_row, .inl (cI, n_this_row, .inl f_this_row)), (a_this_square, .inl (cI, n_this_square, .inl f_this_square)), (a_this_word, .inl (cI, n_this_word, .inl f7))]) [0, 6, 7, 9] rfl
      have hDc := hD.sub (ws' := [(a_this, .inr (4, [.int (0 : Int32), .int i_this_kind, .int i_this_form, .ref a_this_bits, .ref a_this_values, .ref a_this_has, .int i_this_fields, .int i_this_checks, .int i_this_symbols, .ref a_this_row, .int v8, .ref a_this_seen, .int i_this_many, .ref a_this_told, .int i_this_right, .int i_this_mended, .int i_this_mask, .int i_this_turned, .ref a_this_word, .ref a_this_gone, .ref a_this_lines, .ref a_this_places, .ref a_this_square])), (a_this_row, .inl (cI, n_this_row, .inl f_this_row)), (a_this_square, .inl (cI, n_this_square, .inl f_this_square)), (a_this_word, .inl (cI, n_this_word, .inl f7))]) [0, 6, 7, 9] (by decide) rfl
      have hFc := va_free (wc := [(a_this, .inr (4, [.int (0 : Int32), .int i_this_kind, .int i_this_form, .ref a_this_bits, .ref a_this_values, .ref a_this_has, .int i_this_fields, .int i_this_checks, .int i_this_symbols, .ref a_this_row, .int v8, .ref a_this_seen, .int i_this_many, .ref a_this_told, .int i_this_right, .int i_this_mended, .int i_this_mask, .int i_this_turned, .ref a_this_word, .ref a_this_gone, .ref a_this_lines, .ref a_this_places, .ref a_this_square])), (a_this_row, .inl (cI, n_this_row, .inl f_this_row)), (a_this_square, .inl (cI, n_this_square, .inl f_this_square)), (a_this_word, .inl (cI, n_this_word, .inl f7))]) hD hS hA [0, 6, 7, 9] rfl
      refine va_callv (va_runV (As := []) (rest := []) ⟨hx, hb, hml, hown, hts⟩ (c_X5_draw l dC dI cI cJ cZ H.size a_this a_this_bits a_this_values a_this_has a_this_row a_this_seen a_this_told a_this_word a_this_gone a_this_lines a_this_places a_this_square (0 : Int32) i_this_kind i_this_form i_this_fields i_this_checks i_this_symbols v8 i_this_many i_this_right i_this_mended i_this_mask i_this_turned n_this_row n_this_square n_this_word f_this_row f_this_square f7 y40) (cwV 0 hts gX5_make_X5_draw rfl rfl rfl (by decide +kernel) ⟨Nat.le_of_ble_eq_true rfl, Nat.le_of_ble_eq_true rfl⟩) ⟨fun a U g mk q => by obtain ⟨q0, q1, qP, qK, qD⟩ := q; exact ⟨q0, q1, qP, va_K.moved (u := U) (U := U.calling g mk a) (Vm.Alike.refl U.vm) qK, qD⟩, va_recv hK hPc (ci := 4) (q0 := 0) rfl rfl, fun U hU hW => ⟨rfl, by rw [hU], by rw [hU]; exact hPc, va_K.moved hW.alike hK, hDc.weaken (fun _ _ _ _ => trivial)⟩⟩ rfl rfl hl.1 rfl (lv_room (Nat.le_of_ble_eq_true rfl)) dX5_make_40 ⟨Nat.zero_le _, Nat.zero_le _⟩) hS (fun q _ h => hFc q h) hFc (fun u9 t9 H1 locs ht9 hvm9 hw9 hB9 hz9 hk9 hS => ?_)
      obtain ⟨hP1, hK1, hD1⟩ := hB9
      rw [ht9] at hP1
      have hw9 := hw9.symm
      subst hw9
      obtain ⟨hP, hD⟩ := va_join (wr := [(a_this_bits, .inl (cI, n_this_bits, .inl f_this_bits)), (a_this_gone, .inl (cZ, n_this_gone, .inl f2)), (a_this_has, .inl (cZ, n_this_has, .inl f_this_has)), (a_this_lines, .inl (cI, n_this_lines, .inl f5)), (a_this_places, .inl (cI, n_this_places, .inl f6)), (a_this_values, .inl (cJ, n_this_values, .inr (.inl f_this_values)))]) (w1 := [(a_this, .inr (4, [.int (0 : Int32), .int i_this_kind, .int i_this_form, .ref a_this_bits, .ref a_this_values, .ref a_this_has, .int i_this_fields, .int i_this_checks, .int i_this_symbols, .ref a_this_row, .int v8, .ref a_this_seen, .int i_this_many, .ref a_this_told, .int i_this_right, .int i_this_mended, .int v34, .int i_this_turned, .ref a_this_word, .ref a_this_gone, .ref a_this_lines, .ref a_this_places, .ref a_this_square])), (a_this_row, .inl (cI, n_this_row, .inl f35)), (a_this_square, .inl (cI, n_this_square, .inl f36)), (a_this_word, .inl (cI, n_this_word, .inl f7))]) hP hD [0, 6, 7, 9] [1, 2, 3, 4, 5, 8] rfl rfl (by decide) (by decide) hk9 hFc hP1 hD1
      generalize H1 = H at hP hS ⊢
      have hP := hP.sub (ws' := [(a_this, .inr (4, [.int (0 : Int32), .int i_this_kind, .int i_this_form, .ref a_this_bits, .ref a_this_values, .ref a_this_has, .int i_this_fields, .int i_this_checks, .int i_this_symbols, .ref a_this_row, .int v8, .ref a_this_seen, .int i_this_many, .ref a_this_told, .int i_this_right, .int i_this_mended, .int v34, .int i_this_turned, .ref a_this_word, .ref a_this_gone, .ref a_this_lines, .ref a_this_places, .ref a_this_square])), (a_this_bits, .inl (cI, n_this_bits, .inl f_this_bits)), (a_this_gone, .inl (cZ, n_this_gone, .inl f2)), (a_this_has, .inl (cZ, n_this_has, .inl f_this_has)), (a_this_lines, .inl (cI, n_this_lines, .inl f5)), (a_this_places, .inl (cI, n_this_places, .inl f6)), (a_this_row, .inl (cI, n_this_row, .inl f35)), (a_this_square, .inl (cI, n_this_square, .inl f36)), (a_this_values, .inl (cJ, n_this_values, .inr (.inl f_this_values))), (a_this_word, .inl (cI, n_this_word, .inl f7))]) [6, 0, 1, 2, 3, 4, 7, 8, 5, 9] rfl
      have hD := hD.sub (ws' := [(a_this, .inr (4, [.int (0 : Int32), .int i_this_kind, .int i_this_form, .ref a_this_bits, .ref a_this_values, .ref a_this_has, .int i_this_fields, .int i_this_checks, .int i_this_symbols, .ref a_this_row, .int v8, .ref a_this_seen, .int i_this_many, .ref a_this_told, .int i_this_right, .int i_this_mended, .int v34, .int i_this_turned, .ref a_this_word, .ref a_this_gone, .ref a_this_lines, .ref a_this_places, .ref a_this_square])), (a_this_bits, .inl (cI, n_this_bits, .inl f_this_bits)), (a_this_gone, .inl (cZ, n_this_gone, .inl f2)), (a_this_has, .inl (cZ, n_this_has, .inl f_this_has)), (a_this_lines, .inl (cI, n_this_lines, .inl f5)), (a_this_places, .inl (cI, n_this_places, .inl f6)), (a_this_row, .inl (cI, n_this_row, .inl f35)), (a_this_square, .inl (cI, n_this_square, .inl f36)), (a_this_values, .inl (cJ, n_this_values, .inr (.inl f_this_values))), (a_this_word, .inl (cI, n_this_word, .inl f7))]) [6, 0, 1, 2, 3, 4, 7, 8, 5, 9] (by decide) rfl
      refine lv_aload_n hx hb dX5_make_43 rfl (lv_at hl 1 rfl) ?_
      refine va_get (D := (dC, dI)) (ci := 4) (v := .int v8) (C := RX5) (T := TX5) (N := 23) hx hb hts hn_X5_make_X5 hown hK hP 0 rfl rfl 10 (by decide) (hts _ fl_X5_make_150) (fun _ h9 => h9) rfl dX5_make_44 ?_
      rw [eQ]
      exact W.iret (v := v8) hx hb hr (fun t ht hW => ⟨⟨_, (v34, v8, (0 : Int32), f2, f5, f6, f35, f36, f7), rfl, Option.some.inj h, by rw [ht]; exact hP, va_K.moved hW.alike hK, hD⟩, hS.F ht⟩) hS.2.2 dX5_make_47
  · replace h := im_t c9 h
    refine lv_iconst (v := (-1 : Int32)) hx hb dX5_make_12 (by decide) ?_
    rw [eQ]
    exact W.iret (v := (-1 : Int32)) hx hb hr (fun t ht hW => ⟨⟨_, (i_this_mask, i_this_size, (0 : Int32), f_this_gone, f_this_lines, f_this_places, f_this_row, f_this_square, f_this_word), rfl, Option.some.inj h, by rw [ht]; exact hP, va_K.moved hW.alike hK, hD⟩, hS.F ht⟩) hS.2.2 dX5_make_13
