def im_X5_thrown (i_this_thrown : Int32) : Option (Int32) := (some i_this_thrown)
abbrev rm_X5_thrown : Room := { frames := 0, cells := 0, slots := 0, locals := 0 }
theorem hn_X5_thrown_X5 : ∀ w ∈ wsX50, w ∈ wsX5_thrown := by decide +kernel
theorem fl_X5_thrown_68 : Cond.fieldLink RX5 68 "BarCodesModel" "thrown" "I" ∈ wsX5_thrown := by decide +kernel
set_option maxHeartbeats 4000000 in
set_option maxRecDepth 100000 in
theorem c_X5_thrown (l : Launch) (dC : Nat → ClassId) (dI : Nat → Nat → Nat) (cI cJ cZ : ClassId) (a_this a_this_bits a_this_values a_this_has a_this_row a_this_seen a_this_told a_this_word a_this_gone a_this_lines a_this_places a_this_square : Nat) (i_this_thrown i_this_kind i_this_form i_this_fields i_this_checks i_this_symbols i_this_size i_this_many i_this_right i_this_mended i_this_mask i_this_turned : Int32) {r : Int32} (h : im_X5_thrown i_this_thrown = some r) : Met l yX5_thrown wsX5_thrown rm_X5_thrown (va_Pc [.ref a_this] (fun U => va_P (dC, dI) vwCl [(a_this, .inr (4, [.int i_this_thrown, .int i_this_kind, .int i_this_form, .ref a_this_bits, .ref a_this_values, .ref a_this_has, .int i_this_fields, .int i_this_checks, .int i_this_symbols, .ref a_this_row, .int i_this_size, .ref a_this_seen, .int i_this_many, .ref a_this_told, .int i_this_right, .int i_this_mended, .int i_this_mask, .int i_this_turned, .ref a_this_word, .ref a_this_gone, .ref a_this_lines, .ref a_this_places, .ref a_this_square]))] U.heap ∧ va_K (dC, dI) vwCl [(cI, .int), (cJ, .long), (cZ, .boolean)] U)) (vp_Si (fun r9 => r9 = r)) 0 0 (fun _ => False) := by
  refine Met.ofW (cc := cX5_thrown) (maxL := 1) (ret := (some .int)) (by decide) rfl ?_
  intro p e s m args below meth c s₁ B hml hv
  obtain ⟨eargs, hP, hK⟩ := hv
  have hx := B.exec
  have hb := B.bytes
  have hr := B.returns
  have hts := atoms_spec (ws := wsX5_thrown) B.pre
  have hown : s.vm.findClass RX5 = some m.cls := findClass_of_methodNamed B.named
  have hlocks := B.notSynchronized
  refine im_Q (fun Q eQ => ?_)
  have hl := lv_entry [.ref a_this] (n := 1) (Nat.le_of_ble_eq_true rfl)
  rw [show entryFrame m args 1 = entryFrame m ([.ref a_this] : List Value).toArray 1 by rw [eargs], lg_entry_eq]
  generalize (lg_sl ([.ref a_this]) ++ List.replicate (1 - (lg_sl ([.ref a_this])).length) Slot.unset).toArray = ls at hl ⊢
  have hl : lv_has ls 1 [(0, .ref a_this)] := hl
  rw [im_X5_thrown] at h
  refine lv_aload_n hx hb dX5_thrown_0 rfl (lv_at hl 0 rfl) ?_
  refine va_get (D := (dC, dI)) (ci := 4) (v := .int i_this_thrown) (C := RX5) (T := TX5) (N := 23) hx hb hts hn_X5_thrown_X5 hown hK hP 0 rfl rfl 0 (by decide) (hts _ fl_X5_thrown_68) (fun _ h9 => h9) rfl dX5_thrown_1 ?_
  rw [eQ]
  exact W.iret (v := i_this_thrown) hx hb hr (fun t ht hW => ⟨_, rfl, Option.some.inj h, ht⟩) (fun _ h9 => by cases h9) dX5_thrown_4
def im_X5_times_L38  : Nat → Int32 → Int32 → Option (Int32)
  | 0, _, _ => none
  | n + 1, v3, v4 => if v4 ≤ (5 : Int32) then (some v3) else im_j1 (fun (v6 : Int32) => im_lt (v4 + (-1 : Int32)) (fun v8 => (im_X5_times_L38 n v6 v8))) (fun K7 => im_lt (v3 >>> (v4 &&& 31)) (fun v9 => im_lt (v9 &&& (1 : Int32)) (fun v10 => if v10 = (1 : Int32) then im_lt (v4 - (6 : Int32)) (fun v11 => im_lt ((67 : Int32) <<< (v11 &&& 31)) (fun v12 => im_lt (v3 ^^^ v12) (fun v13 => (K7 v13)))) else (K7 v3))))
def im_X5_times_L4 (K2 : Int32 → Option (Int32)) (x1 : Int32) (x0 : Int32) : Nat → Int32 → Int32 → Option (Int32)
  | 0, _, _ => none
  | n + 1, v14, v15 => if (6 : Int32) ≤ v15 then (K2 v14) else im_j1 (fun (v17 : Int32) => im_lt (v15 + (1 : Int32)) (fun v19 => (im_X5_times_L4 K2 x1 x0 n v17 v19))) (fun K18 => im_lt (x1 >>> (v15 &&& 31)) (fun v20 => im_lt (v20 &&& (1 : Int32)) (fun v21 => if v21 = (1 : Int32) then im_lt (x0 <<< (v15 &&& 31)) (fun v22 => im_lt (v14 ^^^ v22) (fun v23 => (K18 v23))) else (K18 v14))))
def im_X5_times (x0 : Int32) (x1 : Int32) : Option (Int32) := im_j1 (fun (v1 : Int32) => (im_X5_times_L38 5000 v1 (10 : Int32))) (fun K2 => (im_X5_times_L4 K2 x1 x0 5000 (0 : Int32) (0 : Int32)))
abbrev rm_X5_times : Room := { frames := 0, cells := 0, slots := 0, locals := 0 }
set_option maxHeartbeats 4000000 in
set_option maxRecDepth 100000 in
theorem c_X5_times (l : Launch) (x0 : Int32) (x1 : Int32) {r : Int32} (h : im_X5_times x0 x1 = some r) : Met l yX5_times wsX5_times rm_X5_times (va_Pc [.int x0, .int x1] (fun U => True)) (vp_Si (fun r9 => r9 = r)) 0 0 (fun _ => False) := by
  refine Met.ofW (cc := cX5_times) (maxL := 4) (ret := (some .int)) (by decide) rfl ?_
  intro p e s m args below meth c s₁ B hml hv
  obtain ⟨eargs, -⟩ := hv
  have hx := B.exec
  have hb := B.bytes
  have hr := B.returns
  have hts := atoms_spec (ws := wsX5_times) B.pre
  have hown : s.vm.findClass RX5 = some m.cls := findClass_of_methodNamed B.named
  have hlocks := B.notSynchronized
  refine im_Q (fun Q eQ => ?_)
  have hl := lv_entry [.int x0, .int x1] (n := 4) (Nat.le_of_ble_eq_true rfl)
  rw [show entryFrame m args 4 = entryFrame m ([.int x0, .int x1] : List Value).toArray 4 by rw [eargs], lg_entry_eq]
  generalize (lg_sl ([.int x0, .int x1]) ++ List.replicate (4 - (lg_sl ([.int x0, .int x1])).length) Slot.unset).toArray = ls at hl ⊢
  have hl : lv_has ls 4 [(0, .int x0), (1, .int x1)] := hl
  rw [im_X5_times] at h
  refine lv_iconst (v := (0 : Int32)) hx hb dX5_times_0 (by decide) ?_
  refine lv_istore_n (lv' := [(2, .int (0 : Int32)), (0, .int x0), (1, .int x1)]) hx hb dX5_times_1 rfl hl (by decide) rfl (fun ls hl => ?_)
  refine lv_iconst (v := (0 : Int32)) hx hb dX5_times_2 (by decide) ?_
  refine lv_istore_n (lv' := [(3, .int (0 : Int32)), (2, .int (0 : Int32)), (0, .int x0), (1, .int x1)]) hx hb dX5_times_3 rfl hl (by decide) rfl (fun ls hl => ?_)
  refine im_j1_u (P := fun v1 => ∀ (ls : Array Slot), lv_has ls 4 [(2, .int v1)] → W p l e (headSpec wsX5_times rm_X5_times).room s m args below meth c s.heap [] 0 0 Q (F0 m 35 ls [])) h (fun v1 h ls hl => ?_) (fun K2 J2 h => ?_)
  · refine lv_bipush (v := (10 : Int32)) hx hb dX5_times_35 (by decide) ?_
    refine lv_istore_n (lv' := [(3, .int (10 : Int32)), (2, .int v1)]) hx hb dX5_times_37 rfl hl (by decide) rfl (fun ls hl => ?_)
    have Lp5 : ∀ (n : Nat) (v3 : Int32) (v4 : Int32), im_X5_times_L38 n v3 v4 = some r → ∀ (ls : Array Slot), lv_has ls 4 [(2, .int v3), (3, .int v4)] → W p l e (headSpec wsX5_times rm_X5_times).room s m args below meth c s.heap [] 0 0 Q (F0 m 38 ls []) := by
      intro n
      induction n with
      | zero => intro v3 v4 h; rw [im_X5_times_L38] at h; cases h
      | succ n ih =>
        intro v3 v4 h ls hl
        rw [im_X5_times_L38] at h
        refine lv_iload_n hx hb dX5_times_38 rfl (lv_at hl 1 rfl) ?_
        refine lv_iconst (v := (5 : Int32)) hx hb dX5_times_39 (by decide) ?_
        refine lv_icmp_le (tgt := 72) hx hb dX5_times_40 (by decide) (fun c40 => ?_) (fun c40 => ?_)
        · replace h := im_t c40 h
          refine lv_iload_n hx hb dX5_times_72 rfl (lv_at hl 0 rfl) ?_
          rw [eQ]
          exact W.iret (v := v3) hx hb hr (fun t ht hW => ⟨_, rfl, Option.some.inj h, ht⟩) (fun _ h9 => by cases h9) dX5_times_73
        · replace h := im_f c40 h
          refine im_j1_u (P := fun v6 => ∀ (ls : Array Slot), lv_has ls 4 [(3, .int v4)] → W p l e (headSpec wsX5_times rm_X5_times).room s m args below meth c s.heap [] 0 0 Q (F0 m 65 ls [.int v6])) h (fun v6 h ls hl => ?_) (fun K7 J7 h => ?_)
          · refine lv_istore_n (lv' := [(2, .int v6), (3, .int v4)]) hx hb dX5_times_65 rfl hl (by decide) rfl (fun ls hl => ?_)
            obtain ⟨v8, ev8⟩ : ∃ y : Int32, y = (v4 + (-1 : Int32)) := ⟨_, rfl⟩
            replace h := im_lt_u h v8 ev8
            refine lv_iinc (v := v8) (lv' := [(3, .int v8), (2, .int v6)]) hx hb dX5_times_66 hl (k := 1) rfl (by rw [ev8]; rfl) (by decide) rfl (fun ls hl => ?_)
            refine lv_goto (tgt := 38) hx hb dX5_times_69 (by decide) ?_
            exact ih v6 v8 h _ (lv_sub hl [1, 0] rfl)
          · refine lv_iload_n hx hb dX5_times_43 rfl (lv_at hl 0 rfl) ?_
            refine lv_iload_n hx hb dX5_times_44 rfl (lv_at hl 1 rfl) ?_
            refine lv_ishr hx hb dX5_times_45 ?_
            refine lv_topi (fun v9 ev9 => ?_)
            replace h := im_lt_u h v9 ev9
            refine lv_iconst (v := (1 : Int32)) hx hb dX5_times_46 (by decide) ?_
            refine lv_iand hx hb dX5_times_47 ?_
            refine lv_topi (fun v10 ev10 => ?_)
            replace h := im_lt_u h v10 ev10
            refine lv_iconst (v := (1 : Int32)) hx hb dX5_times_48 (by decide) ?_
            refine lv_icmp_ne (tgt := 64) hx hb dX5_times_49 (by decide) (fun c49 => ?_) (fun c49 => ?_)
            · replace h := im_f c49 h
              refine lv_iload_n hx hb dX5_times_64 rfl (lv_at hl 0 rfl) ?_
              exact J7 v3 h _ (lv_sub hl [1] rfl)
            · replace h := im_t c49 h
              refine lv_iload_n hx hb dX5_times_52 rfl (lv_at hl 0 rfl) ?_
              refine lv_bipush (v := (67 : Int32)) hx hb dX5_times_53 (by decide) ?_
              refine lv_iload_n hx hb dX5_times_55 rfl (lv_at hl 1 rfl) ?_
              refine lv_bipush (v := (6 : Int32)) hx hb dX5_times_56 (by decide) ?_
              refine lv_isub hx hb dX5_times_58 ?_
              refine lv_topi (fun v11 ev11 => ?_)
              replace h := im_lt_u h v11 ev11
              refine lv_ishl hx hb dX5_times_59 ?_
              refine lv_topi (fun v12 ev12 => ?_)
              replace h := im_lt_u h v12 ev12
              refine lv_ixor hx hb dX5_times_60 ?_
              refine lv_topi (fun v13 ev13 => ?_)
              replace h := im_lt_u h v13 ev13
              refine lv_goto (tgt := 65) hx hb dX5_times_61 (by decide) ?_
              exact J7 v13 h _ (lv_sub hl [1] rfl)
    exact Lp5 5000 v1 (10 : Int32) h _ (lv_sub hl [1, 0] rfl)
  · have Lp16 : ∀ (n : Nat) (v14 : Int32) (v15 : Int32), im_X5_times_L4 K2 x1 x0 n v14 v15 = some r → ∀ (ls : Array Slot), lv_has ls 4 [(0, .int x0), (1, .int x1), (2, .int v14), (3, .int v15)] → W p l e (headSpec wsX5_times rm_X5_times).room s m args below meth c s.heap [] 0 0 Q (F0 m 4 ls []) := by
      intro n
      induction n with
      | zero => intro v14 v15 h; rw [im_X5_times_L4] at h; cases h
      | succ n ih =>
        intro v14 v15 h ls hl
        rw [im_X5_times_L4] at h
        refine lv_iload_n hx hb dX5_times_4 rfl (lv_at hl 3 rfl) ?_
        refine lv_bipush (v := (6 : Int32)) hx hb dX5_times_5 (by decide) ?_
        refine lv_icmp_ge (tgt := 35) hx hb dX5_times_7 (by decide) (fun c7 => ?_) (fun c7 => ?_)
        · replace h := im_t c7 h
          exact J2 v14 h _ (lv_sub hl [2] rfl)
        · replace h := im_f c7 h
          refine im_j1_u (P := fun v17 => ∀ (ls : Array Slot), lv_has ls 4 [(0, .int x0), (1, .int x1), (3, .int v15)] → W p l e (headSpec wsX5_times rm_X5_times).room s m args below meth c s.heap [] 0 0 Q (F0 m 28 ls [.int v17])) h (fun v17 h ls hl => ?_) (fun K18 J18 h => ?_)
          · refine lv_istore_n (lv' := [(2, .int v17), (0, .int x0), (1, .int x1), (3, .int v15)]) hx hb dX5_times_28 rfl hl (by decide) rfl (fun ls hl => ?_)
            obtain ⟨v19, ev19⟩ : ∃ y : Int32, y = (v15 + (1 : Int32)) := ⟨_, rfl⟩
            replace h := im_lt_u h v19 ev19
            refine lv_iinc (v := v19) (lv' := [(3, .int v19), (2, .int v17), (0, .int x0), (1, .int x1)]) hx hb dX5_times_29 hl (k := 3) rfl (by rw [ev19]; rfl) (by decide) rfl (fun ls hl => ?_)
            refine lv_goto (tgt := 4) hx hb dX5_times_32 (by decide) ?_
            exact ih v17 v19 h _ (lv_sub hl [2, 3, 1, 0] rfl)
          · refine lv_iload_n hx hb dX5_times_10 rfl (lv_at hl 1 rfl) ?_
            refine lv_iload_n hx hb dX5_times_11 rfl (lv_at hl 3 rfl) ?_
            refine lv_ishr hx hb dX5_times_12 ?_
            refine lv_topi (fun v20 ev20 => ?_)
            replace h := im_lt_u h v20 ev20
            refine lv_iconst (v := (1 : Int32)) hx hb dX5_times_13 (by decide) ?_
            refine lv_iand hx hb dX5_times_14 ?_
            refine lv_topi (fun v21 ev21 => ?_)
            replace h := im_lt_u h v21 ev21
            refine lv_iconst (v := (1 : Int32)) hx hb dX5_times_15 (by decide) ?_
            refine lv_icmp_ne (tgt := 27) hx hb dX5_times_16 (by decide) (fun c16 => ?_) (fun c16 => ?_)
            · replace h := im_f c16 h
              refine lv_iload_n hx hb dX5_times_27 rfl (lv_at hl 2 rfl) ?_
              exact J18 v14 h _ (lv_sub hl [0, 1, 3] rfl)
            · replace h := im_t c16 h
              refine lv_iload_n hx hb dX5_times_19 rfl (lv_at hl 2 rfl) ?_
              refine lv_iload_n hx hb dX5_times_20 rfl (lv_at hl 0 rfl) ?_
              refine lv_iload_n hx hb dX5_times_21 rfl (lv_at hl 3 rfl) ?_
              refine lv_ishl hx hb dX5_times_22 ?_
              refine lv_topi (fun v22 ev22 => ?_)
              replace h := im_lt_u h v22 ev22
              refine lv_ixor hx hb dX5_times_23 ?_
              refine lv_topi (fun v23 ev23 => ?_)
              replace h := im_lt_u h v23 ev23
              refine lv_goto (tgt := 28) hx hb dX5_times_24 (by decide) ?_
              exact J18 v23 h _ (lv_sub hl [0, 1, 3] rfl)
    exact Lp16 5000 (0 : Int32) (0 : Int32) h _ (lv_sub hl [2, 3, 1, 0] rfl)
def im_X5_inverse_L2 (x0 : Int32) : Nat → Int32 → Option (Int32)
  | 0, _ => none
  | n + 1, v1 => im_b1 (im_X5_times x0 v1) (fun v3 => if v3 = (1 : Int32) then (some v1) else im_lt (v1 + (1 : Int32)) (fun v4 => (im_X5_inverse_L2 x0 n v4)))
def im_X5_inverse (x0 : Int32) : Option (Int32) := (im_X5_inverse_L2 x0 5000 (1 : Int32))
abbrev rm_X5_inverse : Room := { frames := 1, cells := 0, slots := 0, locals := 23 }
set_option maxHeartbeats 4000000 in
set_option maxRecDepth 100000 in
theorem c_X5_inverse (l : Launch) (x0 : Int32) {r : Int32} (h : im_X5_inverse x0 = some r) : Met l yX5_inverse wsX5_inverse rm_X5_inverse (va_Pc [.int x0] (fun U => True)) (vp_Si (fun r9 => r9 = r)) 0 0 (fun _ => False) := by
  refine Met.ofW (cc := cX5_inverse) (maxL := 2) (ret := (some .int)) (by decide) rfl ?_
  intro p e s m args below meth c s₁ B hml hv
  obtain ⟨eargs, -⟩ := hv
  have hx := B.exec
  have hb := B.bytes
  have hr := B.returns
  have hts := atoms_spec (ws := wsX5_inverse) B.pre
  have hown : s.vm.findClass RX5 = some m.cls := findClass_of_methodNamed B.named
  have hlocks := B.notSynchronized
  refine im_Q (fun Q eQ => ?_)
  have hl := lv_entry [.int x0] (n := 2) (Nat.le_of_ble_eq_true rfl)
  rw [show entryFrame m args 2 = entryFrame m ([.int x0] : List Value).toArray 2 by rw [eargs], lg_entry_eq]
  generalize (lg_sl ([.int x0]) ++ List.replicate (2 - (lg_sl ([.int x0])).length) Slot.unset).toArray = ls at hl ⊢
  have hl : lv_has ls 2 [(0, .int x0)] := hl
  rw [im_X5_inverse] at h
  refine lv_iconst (v := (1 : Int32)) hx hb dX5_inverse_0 (by decide) ?_
  refine lv_istore_n (lv' := [(1, .int (1 : Int32)), (0, .int x0)]) hx hb dX5_inverse_1 rfl hl (by decide) rfl (fun ls hl => ?_)
  have Lp2 : ∀ (n : Nat) (v1 : Int32), im_X5_inverse_L2 x0 n v1 = some r → ∀ (ls : Array Slot), lv_has ls 2 [(0, .int x0), (1, .int v1)] → W p l e (headSpec wsX5_inverse rm_X5_inverse).room s m args below meth c s.heap [] 0 0 Q (F0 m 2 ls []) := by
    intro n
    induction n with
    | zero => intro v1 h; rw [im_X5_inverse_L2] at h; cases h
    | succ n ih =>
      intro v1 h ls hl
      rw [im_X5_inverse_L2] at h
      refine lv_iload_n hx hb dX5_inverse_2 rfl (lv_at hl 0 rfl) ?_
      refine lv_iload_n hx hb dX5_inverse_3 rfl (lv_at hl 1 rfl) ?_
      obtain ⟨v3, y4, h⟩ := im_b1_u h
      refine vp_callSi (W.runS (As := [.int x0, .int v1]) (rest := []) ⟨hx, hb, hml, hown, hts⟩ (c_X5_times l x0 v1 y4) (va_cwS 2 hts gX5_inverse_X5_times rfl rfl rfl (by decide +kernel) ⟨Nat.le_of_ble_eq_true rfl, Nat.le_of_ble_eq_true rfl⟩) ⟨fun _ _ _ _ q => q, fun U hU hW => ⟨rfl, trivial⟩⟩ rfl rfl hl.1 rfl (lv_room (Nat.le_of_ble_eq_true rfl)) dX5_inverse_4 ⟨Nat.zero_le _, Nat.zero_le _⟩) (fun w4 ew4 => ?_)
      have ew4 := ew4.symm
      subst ew4
      refine lv_iconst (v := (1 : Int32)) hx hb dX5_inverse_7 (by decide) ?_
      refine lv_icmp_eq (tgt := 17) hx hb dX5_inverse_8 (by decide) (fun c8 => ?_) (fun c8 => ?_)
      · replace h := im_t c8 h
        refine lv_iload_n hx hb dX5_inverse_17 rfl (lv_at hl 1 rfl) ?_
        rw [eQ]
        exact W.iret (v := v1) hx hb hr (fun t ht hW => ⟨_, rfl, Option.some.inj h, ht⟩) (fun _ h9 => by cases h9) dX5_inverse_18
      · replace h := im_f c8 h
        obtain ⟨v4, ev4⟩ : ∃ y : Int32, y = (v1 + (1 : Int32)) := ⟨_, rfl⟩
        replace h := im_lt_u h v4 ev4
        refine lv_iinc (v := v4) (lv' := [(1, .int v4), (0, .int x0)]) hx hb dX5_inverse_11 hl (k := 1) rfl (by rw [ev4]; rfl) (by decide) rfl (fun ls hl => ?_)
        refine lv_goto (tgt := 2) hx hb dX5_inverse_14 (by decide) ?_
        exact ih v4 h _ (lv_sub hl [1, 0] rfl)
  exact Lp2 5000 (1 : Int32) h _ (lv_sub hl [1, 0] rfl)
def im_X5_power_L4 (x0 : Int32) : Nat → Int32 → Int32 → Option (Int32)
  | 0, _, _ => none
  | n + 1, v1, v2 => if x0 ≤ v2 then (some v1) else im_b1 (im_X5_times v1 (2 : Int32)) (fun v4 => im_lt (v2 + (1 : Int32)) (fun v5 => (im_X5_power_L4 x0 n v4 v5)))
def im_X5_power (x0 : Int32) : Option (Int32) := (im_X5_power_L4 x0 5000 (1 : Int32) (0 : Int32))
abbrev rm_X5_power : Room := { frames := 1, cells := 0, slots := 0, locals := 23 }
set_option maxHeartbeats 4000000 in
set_option maxRecDepth 100000 in
theorem c_X5_power (l : Launch) (x0 : Int32) {r : Int32} (h : im_X5_power x0 = some r) : Met l yX5_power wsX5_power rm_X5_power (va_Pc [.int x0] (fun U => True)) (vp_Si (fun r9 => r9 = r)) 0 0 (fun _ => False) := by
  refine Met.ofW (cc := cX5_power) (maxL := 3) (ret := (some .int)) (by decide) rfl ?_
  intro p e s m args below meth c s₁ B hml hv
  obtain ⟨eargs, -⟩ := hv
  have hx := B.exec
  have hb := B.bytes
  have hr := B.returns
  have hts := atoms_spec (ws := wsX5_power) B.pre
  have hown : s.vm.findClass RX5 = some m.cls := findClass_of_methodNamed B.named
  have hlocks := B.notSynchronized
  refine im_Q (fun Q eQ => ?_)
  have hl := lv_entry [.int x0] (n := 3) (Nat.le_of_ble_eq_true rfl)
  rw [show entryFrame m args 3 = entryFrame m ([.int x0] : List Value).toArray 3 by rw [eargs], lg_entry_eq]
  generalize (lg_sl ([.int x0]) ++ List.replicate (3 - (lg_sl ([.int x0])).length) Slot.unset).toArray = ls at hl ⊢
  have hl : lv_has ls 3 [(0, .int x0)] := hl
  rw [im_X5_power] at h
  refine lv_iconst (v := (1 : Int32)) hx hb dX5_power_0 (by decide) ?_
  refine lv_istore_n (lv' := [(1, .int (1 : Int32)), (0, .int x0)]) hx hb dX5_power_1 rfl hl (by decide) rfl (fun ls hl => ?_)
  refine lv_iconst (v := (0 : Int32)) hx hb dX5_power_2 (by decide) ?_
  refine lv_istore_n (lv' := [(2, .int (0 : Int32)), (1, .int (1 : Int32)), (0, .int x0)]) hx hb dX5_power_3 rfl hl (by decide) rfl (fun ls hl => ?_)
  have Lp3 : ∀ (n : Nat) (v1 : Int32) (v2 : Int32), im_X5_power_L4 x0 n v1 v2 = some r → ∀ (ls : Array Slot), lv_has ls 3 [(0, .int x0), (1, .int v1), (2, .int v2)] → W p l e (headSpec wsX5_power rm_X5_power).room s m args below meth c s.heap [] 0 0 Q (F0 m 4 ls []) := by
    intro n
    induction n with
    | zero => intro v1 v2 h; rw [im_X5_power_L4] at h; cases h
    | succ n ih =>
      intro v1 v2 h ls hl
      rw [im_X5_power_L4] at h
      refine lv_iload_n hx hb dX5_power_4 rfl (lv_at hl 2 rfl) ?_
      refine lv_iload_n hx hb dX5_power_5 rfl (lv_at hl 0 rfl) ?_
      refine lv_icmp_ge (tgt := 21) hx hb dX5_power_6 (by decide) (fun c6 => ?_) (fun c6 => ?_)
      · replace h := im_t c6 h
        refine lv_iload_n hx hb dX5_power_21 rfl (lv_at hl 1 rfl) ?_
        rw [eQ]
        exact W.iret (v := v1) hx hb hr (fun t ht hW => ⟨_, rfl, Option.some.inj h, ht⟩) (fun _ h9 => by cases h9) dX5_power_22
      · replace h := im_f c6 h
        refine lv_iload_n hx hb dX5_power_9 rfl (lv_at hl 1 rfl) ?_
        refine lv_iconst (v := (2 : Int32)) hx hb dX5_power_10 (by decide) ?_
        obtain ⟨v4, y11, h⟩ := im_b1_u h
        refine vp_callSi (W.runS (As := [.int v1, .int (2 : Int32)]) (rest := []) ⟨hx, hb, hml, hown, hts⟩ (c_X5_times l v1 (2 : Int32) y11) (va_cwS 2 hts gX5_power_X5_times rfl rfl rfl (by decide +kernel) ⟨Nat.le_of_ble_eq_true rfl, Nat.le_of_ble_eq_true rfl⟩) ⟨fun _ _ _ _ q => q, fun U hU hW => ⟨rfl, trivial⟩⟩ rfl rfl hl.1 rfl (lv_room (Nat.le_of_ble_eq_true rfl)) dX5_power_11 ⟨Nat.zero_le _, Nat.zero_le _⟩) (fun w11 ew11 => ?_)
        have ew11 := ew11.symm
        subst ew11
        refine lv_istore_n (lv' := [(1, .int v4), (0, .int x0), (2, .int v2)]) hx hb dX5_power_14 rfl hl (by decide) rfl (fun ls hl => ?_)
        obtain ⟨v5, ev5⟩ : ∃ y : Int32, y = (v2 + (1 : Int32)) := ⟨_, rfl⟩
        replace h := im_lt_u h v5 ev5
        refine lv_iinc (v := v5) (lv' := [(2, .int v5), (1, .int v4), (0, .int x0)]) hx hb dX5_power_15 hl (k := 2) rfl (by rw [ev5]; rfl) (by decide) rfl (fun ls hl => ?_)
        refine lv_goto (tgt := 4) hx hb dX5_power_18 (by decide) ?_
        exact ih v4 v5 h _ (lv_sub hl [2, 1, 0] rfl)
  exact Lp3 5000 (1 : Int32) (0 : Int32) h _ (lv_sub hl [2, 1, 0] rfl)
def im_X5_over (x0 : Int32) (x1 : Int32) (i_this_thrown : Int32) : Option (Int32 × Int32) := im_j1 (fun (v1 : Int32) => if v1 ≤ 0 then im_lt (x0 &&& (63 : Int32)) (fun v3 => im_lt (x1 &&& (63 : Int32)) (fun v4 => im_b1 (im_X5_inverse v4) (fun v5 => im_b1 (im_X5_times v3 v5) (fun v6 => (some (v6, v1)))))) else (some ((0 : Int32), v1))) (fun K2 => im_lt (x1 &&& (63 : Int32)) (fun v7 => if v7 = 0 then (K2 (1 : Int32)) else (K2 (0 : Int32))))
abbrev rm_X5_over : Room := { frames := 2, cells := 0, slots := 0, locals := 44 }
theorem hn_X5_over_X5 : ∀ w ∈ wsX50, w ∈ wsX5_over := by decide +kernel
theorem fl_X5_over_68 : Cond.fieldLink RX5 68 "BarCodesModel" "thrown" "I" ∈ wsX5_over := by decide +kernel
set_option maxHeartbeats 4000000 in
set_option maxRecDepth 100000 in
theorem c_X5_over (l : Launch) (dC : Nat → ClassId) (dI : Nat → Nat → Nat) (cI cJ cZ : ClassId) (sz : Nat) (a_this a_this_bits a_this_values a_this_has a_this_row a_this_seen a_this_told a_this_word a_this_gone a_this_lines a_this_places a_this_square : Nat) (i_this_thrown i_this_kind i_this_form i_this_fields i_this_checks i_this_symbols i_this_size i_this_many i_this_right i_this_mended i_this_mask i_this_turned : Int32) (x0 : Int32) (x1 : Int32) {r : Int32 × Int32} (h : im_X5_over x0 x1 i_this_thrown = some r) : Met l yX5_over wsX5_over rm_X5_over (va_Pc [.ref a_this, .int x0, .int x1] (fun U => U.heap.size = sz ∧ va_P (dC, dI) vwCl [(a_this, .inr (4, [.int i_this_thrown, .int i_this_kind, .int i_this_form, .ref a_this_bits, .ref a_this_values, .ref a_this_has, .int i_this_fields, .int i_this_checks, .int i_this_symbols, .ref a_this_row, .int i_this_size, .ref a_this_seen, .int i_this_many, .ref a_this_told, .int i_this_right, .int i_this_mended, .int i_this_mask, .int i_this_turned, .ref a_this_word, .ref a_this_gone, .ref a_this_lines, .ref a_this_places, .ref a_this_square]))] U.heap ∧ va_K (dC, dI) vwCl [(cI, .int), (cJ, .long), (cZ, .boolean)] U ∧ va_D (fun _ => True) [(a_this, .inr (4, [.int i_this_thrown, .int i_this_kind, .int i_this_form, .ref a_this_bits, .ref a_this_values, .ref a_this_has, .int i_this_fields, .int i_this_checks, .int i_this_symbols, .ref a_this_row, .int i_this_size, .ref a_this_seen, .int i_this_many, .ref a_this_told, .int i_this_right, .int i_this_mended, .int i_this_mask, .int i_this_turned, .ref a_this_word, .ref a_this_gone, .ref a_this_lines, .ref a_this_places, .ref a_this_square]))])) (va_Qi (S := Int32) (fun r9 u9 => (r9, u9) = r) (fun u9 t9 => va_P (dC, dI) vwCl [(a_this, .inr (4, [.int (u9), .int i_this_kind, .int i_this_form, .ref a_this_bits, .ref a_this_values, .ref a_this_has, .int i_this_fields, .int i_this_checks, .int i_this_symbols, .ref a_this_row, .int i_this_size, .ref a_this_seen, .int i_this_many, .ref a_this_told, .int i_this_right, .int i_this_mended, .int i_this_mask, .int i_this_turned, .ref a_this_word, .ref a_this_gone, .ref a_this_lines, .ref a_this_places, .ref a_this_square]))] t9.heap ∧ va_K (dC, dI) vwCl [(cI, .int), (cJ, .long), (cZ, .boolean)] t9 ∧ va_D (va_A [(a_this, .inr (4, [.int i_this_thrown, .int i_this_kind, .int i_this_form, .ref a_this_bits, .ref a_this_values, .ref a_this_has, .int i_this_fields, .int i_this_checks, .int i_this_symbols, .ref a_this_row, .int i_this_size, .ref a_this_seen, .int i_this_many, .ref a_this_told, .int i_this_right, .int i_this_mended, .int i_this_mask, .int i_this_turned, .ref a_this_word, .ref a_this_gone, .ref a_this_lines, .ref a_this_places, .ref a_this_square]))] sz) [(a_this, .inr (4, [.int (u9), .int i_this_kind, .int i_this_form, .ref a_this_bits, .ref a_this_values, .ref a_this_has, .int i_this_fields, .int i_this_checks, .int i_this_symbols, .ref a_this_row, .int i_this_size, .ref a_this_seen, .int i_this_many, .ref a_this_told, .int i_this_right, .int i_this_mended, .int i_this_mask, .int i_this_turned, .ref a_this_word, .ref a_this_gone, .ref a_this_lines, .ref a_this_places, .ref a_this_square]))]) (va_A [(a_this, .inr (4, [.int i_this_thrown, .int i_this_kind, .int i_this_form, .ref a_this_bits, .ref a_this_values, .ref a_this_has, .int i_this_fields, .int i_this_checks, .int i_this_symbols, .ref a_this_row, .int i_this_size, .ref a_this_seen, .int i_this_many, .ref a_this_told, .int i_this_right, .int i_this_mended, .int i_this_mask, .int i_this_turned, .ref a_this_word, .ref a_this_gone, .ref a_this_lines, .ref a_this_places, .ref a_this_square]))] sz)) 0 0 (va_A [(a_this, .inr (4, [.int i_this_thrown, .int i_this_kind, .int i_this_form, .ref a_this_bits, .ref a_this_values, .ref a_this_has, .int i_this_fields, .int i_this_checks, .int i_this_symbols, .ref a_this_row, .int i_this_size, .ref a_this_seen, .int i_this_many, .ref a_this_told, .int i_this_right, .int i_this_mended, .int i_this_mask, .int i_this_turned, .ref a_this_word, .ref a_this_gone, .ref a_this_lines, .ref a_this_places, .ref a_this_square]))] sz) := by
  refine Met.ofW (cc := cX5_over) (maxL := 3) (ret := (some .int)) (by decide) rfl ?_
  intro p e s m args below meth c s₁ B hml hv
  obtain ⟨eargs, hsz, hP, hK, hD0⟩ := hv
  have hx := B.exec
  have hb := B.bytes
  have hr := B.returns
  have hts := atoms_spec (ws := wsX5_over) B.pre
  have hown : s.vm.findClass RX5 = some m.cls := findClass_of_methodNamed B.named
  have hlocks := B.notSynchronized
  refine im_Q (fun Q eQ => ?_)
  subst hsz
  have hD := hD0.self (sz := s.heap.size)
  generalize hAe : va_A [(a_this, .inr (4, [.int i_this_thrown, .int i_this_kind, .int i_this_form, .ref a_this_bits, .ref a_this_values, .ref a_this_has, .int i_this_fields, .int i_this_checks, .int i_this_symbols, .ref a_this_row, .int i_this_size, .ref a_this_seen, .int i_this_many, .ref a_this_told, .int i_this_right, .int i_this_mended, .int i_this_mask, .int i_this_turned, .ref a_this_word, .ref a_this_gone, .ref a_this_lines, .ref a_this_places, .ref a_this_square]))] s.heap.size = A at hD eQ
  have hA : ∀ q : Nat, s.heap.size ≤ q → A q := fun q h => by rw [← hAe]; exact Or.inr h
  have hS : va_S A s.heap s.heap [] := va_S.rf
  have hl := lv_entry [.ref a_this, .int x0, .int x1] (n := 3) (Nat.le_of_ble_eq_true rfl)
  rw [show entryFrame m args 3 = entryFrame m ([.ref a_this, .int x0, .int x1] : List Value).toArray 3 by rw [eargs], lg_entry_eq]
  generalize (lg_sl ([.ref a_this, .int x0, .int x1]) ++ List.replicate (3 - (lg_sl ([.ref a_this, .int x0, .int x1])).length) Slot.unset).toArray = ls at hl ⊢
  have hl : lv_has ls 3 [(0, .ref a_this), (1, .int x0), (2, .int x1)] := hl
  rw [im_X5_over] at h
  refine im_j1_u (P := fun v1 => ∀ (H : Heap) (locs : List Loc) (ls : Array Slot), va_P (dC, dI) vwCl [(a_this, .inr (4, [.int i_this_thrown, .int i_this_kind, .int i_this_form, .ref a_this_bits, .ref a_this_values, .ref a_this_has, .int i_this_fields, .int i_this_checks, .int i_this_symbols, .ref a_this_row, .int i_this_size, .ref a_this_seen, .int i_this_many, .ref a_this_told, .int i_this_right, .int i_this_mended, .int i_this_mask, .int i_this_turned, .ref a_this_word, .ref a_this_gone, .ref a_this_lines, .ref a_this_places, .ref a_this_square]))] H → va_D A [(a_this, .inr (4, [.int i_this_thrown, .int i_this_kind, .int i_this_form, .ref a_this_bits, .ref a_this_values, .ref a_this_has, .int i_this_fields, .int i_this_checks, .int i_this_symbols, .ref a_this_row, .int i_this_size, .ref a_this_seen, .int i_this_many, .ref a_this_told, .int i_this_right, .int i_this_mended, .int i_this_mask, .int i_this_turned, .ref a_this_word, .ref a_this_gone, .ref a_this_lines, .ref a_this_places, .ref a_this_square]))] → va_S A s.heap H locs → lv_has ls 3 [(0, .ref a_this), (1, .int x0), (2, .int x1)] → W p l e (headSpec wsX5_over rm_X5_over).room s m args below meth c H locs 0 0 Q (F0 m 13 ls [.int v1, .ref a_this])) h (fun v1 h H locs ls hP hD hS hl => ?_) (fun K2 J2 h => ?_)
  · refine va_put (D := (dC, dI)) (ci := 4) (v := .int v1) (ty := .int) (C := RX5) (T := TX5) (N := 23) hx hb hts hn_X5_over_X5 tyX5 tyX5_ok nmX5 hown hK hP hD hS 0 rfl rfl 0 (by decide) (hts _ fl_X5_over_68) (fun _ h9 => h9) rfl (by decide +kernel) rfl rfl (Nat.le_of_ble_eq_true rfl) dX5_over_13 (fun H locs hP hD hS => ?_)
    have hP : va_P (dC, dI) vwCl [(a_this, .inr (4, [.int v1, .int i_this_kind, .int i_this_form, .ref a_this_bits, .ref a_this_values, .ref a_this_has, .int i_this_fields, .int i_this_checks, .int i_this_symbols, .ref a_this_row, .int i_this_size, .ref a_this_seen, .int i_this_many, .ref a_this_told, .int i_this_right, .int i_this_mended, .int i_this_mask, .int i_this_turned, .ref a_this_word, .ref a_this_gone, .ref a_this_lines, .ref a_this_places, .ref a_this_square]))] H := hP
    have hD : va_D A [(a_this, .inr (4, [.int v1, .int i_this_kind, .int i_this_form, .ref a_this_bits, .ref a_this_values, .ref a_this_has, .int i_this_fields, .int i_this_checks, .int i_this_symbols, .ref a_this_row, .int i_this_size, .ref a_this_seen, .int i_this_many, .ref a_this_told, .int i_this_right, .int i_this_mended, .int i_this_mask, .int i_this_turned, .ref a_this_word, .ref a_this_gone, .ref a_this_lines, .ref a_this_places, .ref a_this_square]))] := hD
    refine lv_aload_n hx hb dX5_over_16 rfl (lv_at hl 0 rfl) ?_
    refine va_get (D := (dC, dI)) (ci := 4) (v := .int v1) (C := RX5) (T := TX5) (N := 23) hx hb hts hn_X5_over_X5 hown hK hP 0 rfl rfl 0 (by decide) (hts _ fl_X5_over_68) (fun _ h9 => h9) rfl dX5_over_17 ?_
    refine lv_if_le (tgt := 27) hx hb dX5_over_20 (by decide) (fun c20 => ?_) (fun c20 => ?_)
    · replace h := im_t c20 h
      refine lv_iload_n hx hb dX5_over_27 rfl (lv_at hl 1 rfl) ?_
      refine lv_bipush (v := (63 : Int32)) hx hb dX5_over_28 (by decide) ?_
      refine lv_iand hx hb dX5_over_30 ?_
      refine lv_topi (fun v3 ev3 => ?_)
      replace h := im_lt_u h v3 ev3
      refine lv_iload_n hx hb dX5_over_31 rfl (lv_at hl 2 rfl) ?_
      refine lv_bipush (v := (63 : Int32)) hx hb dX5_over_32 (by decide) ?_
      refine lv_iand hx hb dX5_over_34 ?_
      refine lv_topi (fun v4 ev4 => ?_)
      replace h := im_lt_u h v4 ev4
      obtain ⟨v5, y35, h⟩ := im_b1_u h
      refine vp_callSi (W.runS (As := [.int v4]) (rest := [.int v3]) ⟨hx, hb, hml, hown, hts⟩ (c_X5_inverse l v4 y35) (va_cwS 1 hts gX5_over_X5_inverse rfl rfl rfl (by decide +kernel) ⟨Nat.le_of_ble_eq_true rfl, Nat.le_of_ble_eq_true rfl⟩) ⟨fun _ _ _ _ q => q, fun U hU hW => ⟨rfl, trivial⟩⟩ rfl rfl hl.1 rfl (lv_room (Nat.le_of_ble_eq_true rfl)) dX5_over_35 ⟨Nat.zero_le _, Nat.zero_le _⟩) (fun w35 ew35 => ?_)
      have ew35 := ew35.symm
      subst ew35
      obtain ⟨v6, y38, h⟩ := im_b1_u h
      refine vp_callSi (W.runS (As := [.int v3, .int v5]) (rest := []) ⟨hx, hb, hml, hown, hts⟩ (c_X5_times l v3 v5 y38) (va_cwS 2 hts gX5_over_X5_times rfl rfl rfl (by decide +kernel) ⟨Nat.le_of_ble_eq_true rfl, Nat.le_of_ble_eq_true rfl⟩) ⟨fun _ _ _ _ q => q, fun U hU hW => ⟨rfl, trivial⟩⟩ rfl rfl hl.1 rfl (lv_room (Nat.le_of_ble_eq_true rfl)) dX5_over_38 ⟨Nat.zero_le _, Nat.zero_le _⟩) (fun w38 ew38 => ?_)
      have ew38 := ew38.symm
      subst ew38
      rw [eQ]
      exact W.iret (v := v6) hx hb hr (fun t ht hW => ⟨⟨_, v1, rfl, Option.some.inj h, by rw [ht]; exact hP, va_K.moved hW.alike hK, hD⟩, hS.F ht⟩) hS.2.2 dX5_over_41
    · replace h := im_f c20 h
      refine lv_iconst (v := (0 : Int32)) hx hb dX5_over_23 (by decide) ?_
      refine lv_goto (tgt := 41) hx hb dX5_over_24 (by decide) ?_
      rw [eQ]
      exact W.iret (v := (0 : Int32)) hx hb hr (fun t ht hW => ⟨⟨_, v1, rfl, Option.some.inj h, by rw [ht]; exact hP, va_K.moved hW.alike hK, hD⟩, hS.F ht⟩) hS.2.2 dX5_over_41
  · refine lv_aload_n hx hb dX5_over_0 rfl (lv_at hl 0 rfl) ?_
    refine lv_iload_n hx hb dX5_over_1 rfl (lv_at hl 2 rfl) ?_
    refine lv_bipush (v := (63 : Int32)) hx hb dX5_over_2 (by decide) ?_
    refine lv_iand hx hb dX5_over_4 ?_
    refine lv_topi (fun v7 ev7 => ?_)
    replace h := im_lt_u h v7 ev7
    refine lv_if_ne (tgt := 12) hx hb dX5_over_5 (by decide) (fun c5 => ?_) (fun c5 => ?_)
    · replace h := im_f c5 h
      refine lv_iconst (v := (0 : Int32)) hx hb dX5_over_12 (by decide) ?_
      exact J2 (0 : Int32) h _ _ _ hP hD hS (lv_sub hl [0, 1, 2] rfl)
    · replace h := im_t c5 h
      refine lv_iconst (v := (1 : Int32)) hx hb dX5_over_8 (by decide) ?_
      refine lv_goto (tgt := 13) hx hb dX5_over_9 (by decide) ?_
      exact J2 (1 : Int32) h _ _ _ hP hD hS (lv_sub hl [0, 1, 2] rfl)
def im_X5_field (x0 : Int32) (x1 : Int64) (i_this_thrown : Int32) (i_this_fields : Int32) (n_this_bits : Nat) (n_this_has : Nat) (n_this_values : Nat) (f_this_bits : Nat → Int32) (f_this_has : Nat → Int32) (f_this_values : Nat → Int64) : Option (Int32 × (Nat → Int32) × (Nat → Int64)) := im_j1 (fun (v1 : Int32) => if v1 = 0 then im_stL n_this_values f_this_values x0 x1 (fun f3 => im_st n_this_has f_this_has x0 (1 : Int32) (fun f4 => (some (v1, f4, f3)))) else (some (v1, f_this_has, f_this_values))) (fun K2 => im_j0 ((K2 (1 : Int32))) (fun K5 => if x0 < 0 then (K5) else if x0 < i_this_fields then im_j0 ((K2 (2 : Int32))) (fun K6 => im_lt (lg_cmp x1 (0 : Int64)) (fun v7 => if v7 < 0 then (K6) else im_ld n_this_bits f_this_bits x0 (fun v8 => im_lt (x1 >>> (v8.toInt64 &&& 63)) (fun v9 => im_lt (lg_cmp v9 (0 : Int64)) (fun v10 => if v10 = 0 then (K2 (0 : Int32)) else (K6)))))) else (K5)))
abbrev rm_X5_field : Room := { frames := 0, cells := 0, slots := 0, locals := 0 }
theorem hn_X5_field_X5 : ∀ w ∈ wsX50, w ∈ wsX5_field := by decide +kernel
theorem fl_X5_field_68 : Cond.fieldLink RX5 68 "BarCodesModel" "thrown" "I" ∈ wsX5_field := by decide +kernel
theorem fl_X5_field_13 : Cond.fieldLink RX5 13 "BarCodesModel" "values" "[J" ∈ wsX5_field := by decide +kernel
theorem fl_X5_field_17 : Cond.fieldLink RX5 17 "BarCodesModel" "has" "[Z" ∈ wsX5_field := by decide +kernel
theorem fl_X5_field_59 : Cond.fieldLink RX5 59 "BarCodesModel" "fields" "I" ∈ wsX5_field := by decide +kernel
theorem fl_X5_field_7 : Cond.fieldLink RX5 7 "BarCodesModel" "bits" "[I" ∈ wsX5_field := by decide +kernel
set_option maxHeartbeats 4000000 in
set_option maxRecDepth 100000 in
theorem c_X5_field (l : Launch) (dC : Nat → ClassId) (dI : Nat → Nat → Nat) (cI cJ cZ : ClassId) (sz : Nat) (a_this a_this_bits a_this_values a_this_has a_this_row a_this_seen a_this_told a_this_word a_this_gone a_this_lines a_this_places a_this_square : Nat) (i_this_thrown i_this_kind i_this_form i_this_fields i_this_checks i_this_symbols i_this_size i_this_many i_this_right i_this_mended i_this_mask i_this_turned : Int32) (n_this_bits n_this_has n_this_values : Nat) (f_this_bits : Nat → Int32) (f_this_has : Nat → Int32) (f_this_values : Nat → Int64) (x0 : Int32) (x1 : Int64) {r : Int32 × (Nat → Int32) × (Nat → Int64)} (h : im_X5_field x0 x1 i_this_thrown i_this_fields n_this_bits n_this_has n_this_values f_this_bits f_this_has f_this_values = some r) : Met l yX5_field wsX5_field rm_X5_field (va_Pc [.ref a_this, .int x0, .long x1] (fun U => U.heap.size = sz ∧ va_P (dC, dI) vwCl [(a_this, .inr (4, [.int i_this_thrown, .int i_this_kind, .int i_this_form, .ref a_this_bits, .ref a_this_values, .ref a_this_has, .int i_this_fields, .int i_this_checks, .int i_this_symbols, .ref a_this_row, .int i_this_size, .ref a_this_seen, .int i_this_many, .ref a_this_told, .int i_this_right, .int i_this_mended, .int i_this_mask, .int i_this_turned, .ref a_this_word, .ref a_this_gone, .ref a_this_lines, .ref a_this_places, .ref a_this_square])), (a_this_bits, .inl (cI, n_this_bits, .inl f_this_bits)), (a_this_has, .inl (cZ, n_this_has, .inl f_this_has)), (a_this_values, .inl (cJ, n_this_values, .inr (.inl f_this_values)))] U.heap ∧ va_K (dC, dI) vwCl [(cI, .int), (cJ, .long), (cZ, .boolean)] U ∧ va_D (fun _ => True) [(a_this, .inr (4, [.int i_this_thrown, .int i_this_kind, .int i_this_form, .ref a_this_bits, .ref a_this_values, .ref a_this_has, .int i_this_fields, .int i_this_checks, .int i_this_symbols, .ref a_this_row, .int i_this_size, .ref a_this_seen, .int i_this_many, .ref a_this_told, .int i_this_right, .int i_this_mended, .int i_this_mask, .int i_this_turned, .ref a_this_word, .ref a_this_gone, .ref a_this_lines, .ref a_this_places, .ref a_this_square])), (a_this_bits, .inl (cI, n_this_bits, .inl f_this_bits)), (a_this_has, .inl (cZ, n_this_has, .inl f_this_has)), (a_this_values, .inl (cJ, n_this_values, .inr (.inl f_this_values)))])) (va_Qv (S := Int32 × (Nat → Int32) × (Nat → Int64)) (fun u9 => u9 = r) (fun u9 t9 => va_P (dC, dI) vwCl [(a_this, .inr (4, [.int (u9.1), .int i_this_kind, .int i_this_form, .ref a_this_bits, .ref a_this_values, .ref a_this_has, .int i_this_fields, .int i_this_checks, .int i_this_symbols, .ref a_this_row, .int i_this_size, .ref a_this_seen, .int i_this_many, .ref a_this_told, .int i_this_right, .int i_this_mended, .int i_this_mask, .int i_this_turned, .ref a_this_word, .ref a_this_gone, .ref a_this_lines, .ref a_this_places, .ref a_this_square])), (a_this_bits, .inl (cI, n_this_bits, .inl f_this_bits)), (a_this_has, .inl (cZ, n_this_has, .inl (u9.2.1))), (a_this_values, .inl (cJ, n_this_values, .inr (.inl (u9.2.2))))] t9.heap ∧ va_K (dC, dI) vwCl [(cI, .int), (cJ, .long), (cZ, .boolean)] t9 ∧ va_D (va_A [(a_this, .inr (4, [.int i_this_thrown, .int i_this_kind, .int i_this_form, .ref a_this_bits, .ref a_this_values, .ref a_this_has, .int i_this_fields, .int i_this_checks, .int i_this_symbols, .ref a_this_row, .int i_this_size, .ref a_this_seen, .int i_this_many, .ref a_this_told, .int i_this_right, .int i_this_mended, .int i_this_mask, .int i_this_turned, .ref a_this_word, .ref a_this_gone, .ref a_this_lines, .ref a_this_places, .ref a_this_square])), (a_this_bits, .inl (cI, n_this_bits, .inl f_this_bits)), (a_this_has, .inl (cZ, n_this_has, .inl f_this_has)), (a_this_values, .inl (cJ, n_this_values, .inr (.inl f_this_values)))] sz) [(a_this, .inr (4, [.int (u9.1), .int i_this_kind, .int i_this_form, .ref a_this_bits, .ref a_this_values, .ref a_this_has, .int i_this_fields, .int i_this_checks, .int i_this_symbols, .ref a_this_row, .int i_this_size, .ref a_this_seen, .int i_this_many, .ref a_this_told, .int i_this_right, .int i_this_mended, .int i_this_mask, .int i_this_turned, .ref a_this_word, .ref a_this_gone, .ref a_this_lines, .ref a_this_places, .ref a_this_square])), (a_this_bits, .inl (cI, n_this_bits, .inl f_this_bits)), (a_this_has, .inl (cZ, n_this_has, .inl (u9.2.1))), (a_this_values, .inl (cJ, n_this_values, .inr (.inl (u9.2.2))))]) (va_A [(a_this, .inr (4, [.int i_this_thrown, .int i_this_kind, .int i_this_form, .ref a_this_bits, .ref a_this_values, .ref a_this_has, .int i_this_fields, .int i_this_checks, .int i_this_symbols, .ref a_this_row, .int i_this_size, .ref a_this_seen, .int i_this_many, .ref a_this_told, .int i_this_right, .int i_this_mended, .int i_this_mask, .int i_this_turned, .ref a_this_word, .ref a_this_gone, .ref a_this_lines, .ref a_this_places, .ref a_this_square])), (a_this_bits, .inl (cI, n_this_bits, .inl f_this_bits)), (a_this_has, .inl (cZ, n_this_has, .inl f_this_has)), (a_this_values, .inl (cJ, n_this_values, .inr (.inl f_this_values)))] sz)) 0 0 (va_A [(a_this, .inr (4, [.int i_this_thrown, .int i_this_kind, .int i_this_form, .ref a_this_bits, .ref a_this_values, .ref a_this_has, .int i_this_fields, .int i_this_checks, .int i_this_symbols, .ref a_this_row, .int i_this_size, .ref a_this_seen, .int i_this_many, .ref a_this_told, .int i_this_right, .int i_this_mended, .int i_this_mask, .int i_this_turned, .ref a_this_word, .ref a_this_gone, .ref a_this_lines, .ref a_this_places, .ref a_this_square])), (a_this_bits, .inl (cI, n_this_bits, .inl f_this_bits)), (a_this_has, .inl (cZ, n_this_has, .inl f_this_has)), (a_this_values, .inl (cJ, n_this_values, .inr (.inl f_this_values)))] sz) := by
  refine Met.ofW (cc := cX5_field) (maxL := 4) (ret := none) (by decide) rfl ?_
  intro p e s m args below meth c s₁ B hml hv
  obtain ⟨eargs, hsz, hP, hK, hD0⟩ := hv
  have hx := B.exec
  have hb := B.bytes
  have hr := B.returns
  have hts := atoms_spec (ws := wsX5_field) B.pre
  have hown : s.vm.findClass RX5 = some m.cls := findClass_of_methodNamed B.named
  have hlocks := B.notSynchronized
  refine im_Q (fun Q eQ => ?_)
  subst hsz
  have hD := hD0.self (sz := s.heap.size)
  generalize hAe : va_A [(a_this, .inr (4, [.int i_this_thrown, .int i_this_kind, .int i_this_form, .ref a_this_bits, .ref a_this_values, .ref a_this_has, .int i_this_fields, .int i_this_checks, .int i_this_symbols, .ref a_this_row, .int i_this_size, .ref a_this_seen, .int i_this_many, .ref a_this_told, .int i_this_right, .int i_this_mended, .int i_this_mask, .int i_this_turned, .ref a_this_word, .ref a_this_gone, .ref a_this_lines, .ref a_this_places, .ref a_this_square])), (a_this_bits, .inl (cI, n_this_bits, .inl f_this_bits)), (a_this_has, .inl (cZ, n_this_has, .inl f_this_has)), (a_this_values, .inl (cJ, n_this_values, .inr (.inl f_this_values)))] s.heap.size = A at hD eQ
  have hA : ∀ q : Nat, s.heap.size ≤ q → A q := fun q h => by rw [← hAe]; exact Or.inr h
  have hS : va_S A s.heap s.heap [] := va_S.rf
  have hl := lv_entry [.ref a_this, .int x0, .long x1] (n := 4) (Nat.le_of_ble_eq_true rfl)
  rw [show entryFrame m args 4 = entryFrame m ([.ref a_this, .int x0, .long x1] : List Value).toArray 4 by rw [eargs], lg_entry_eq]
  generalize (lg_sl ([.ref a_this, .int x0, .long x1]) ++ List.replicate (4 - (lg_sl ([.ref a_this, .int x0, .long x1])).length) Slot.unset).toArray = ls at hl ⊢
  have hl : lv_has ls 4 [(0, .ref a_this), (1, .int x0), (2, .long x1)] := hl
  rw [im_X5_field] at h
  refine im_j1_u (P := fun v1 => ∀ (H : Heap) (locs : List Loc) (ls : Array Slot), va_P (dC, dI) vwCl [(a_this, .inr (4, [.int i_this_thrown, .int i_this_kind, .int i_this_form, .ref a_this_bits, .ref a_this_values, .ref a_this_has, .int i_this_fields, .int i_this_checks, .int i_this_symbols, .ref a_this_row, .int i_this_size, .ref a_this_seen, .int i_this_many, .ref a_this_told, .int i_this_right, .int i_this_mended, .int i_this_mask, .int i_this_turned, .ref a_this_word, .ref a_this_gone, .ref a_this_lines, .ref a_this_places, .ref a_this_square])), (a_this_bits, .inl (cI, n_this_bits, .inl f_this_bits)), (a_this_has, .inl (cZ, n_this_has, .inl f_this_has)), (a_this_values, .inl (cJ, n_this_values, .inr (.inl f_this_values)))] H → va_D A [(a_this, .inr (4, [.int i_this_thrown, .int i_this_kind, .int i_this_form, .ref a_this_bits, .ref a_this_values, .ref a_this_has, .int i_this_fields, .int i_this_checks, .int i_this_symbols, .ref a_this_row, .int i_this_size, .ref a_this_seen, .int i_this_many, .ref a_this_told, .int i_this_right, .int i_this_mended, .int i_this_mask, .int i_this_turned, .ref a_this_word, .ref a_this_gone, .ref a_this_lines, .ref a_this_places, .ref a_this_square])), (a_this_bits, .inl (cI, n_this_bits, .inl f_this_bits)), (a_this_has, .inl (cZ, n_this_has, .inl f_this_has)), (a_this_values, .inl (cJ, n_this_values, .inr (.inl f_this_values)))] → va_S A s.heap H locs → lv_has ls 4 [(0, .ref a_this), (1, .int x0), (2, .long x1)] → W p l e (headSpec wsX5_field rm_X5_field).room s m args below meth c H locs 0 0 Q (F0 m 41 ls [.int v1, .ref a_this])) h (fun v1 h H locs ls hP hD hS hl => ?_) (fun K2 J2 h => ?_)
  · refine va_put (D := (dC, dI)) (ci := 4) (v := .int v1) (ty := .int) (C := RX5) (T := TX5) (N := 23) hx hb hts hn_X5_field_X5 tyX5 tyX5_ok nmX5 hown hK hP hD hS 0 rfl rfl 0 (by decide) (hts _ fl_X5_field_68) (fun _ h9 => h9) rfl (by decide +kernel) rfl rfl (Nat.le_of_ble_eq_true rfl) dX5_field_41 (fun H locs hP hD hS => ?_)
    have hP : va_P (dC, dI) vwCl [(a_this, .inr (4, [.int v1, .int i_this_kind, .int i_this_form, .ref a_this_bits, .ref a_this_values, .ref a_this_has, .int i_this_fields, .int i_this_checks, .int i_this_symbols, .ref a_this_row, .int i_this_size, .ref a_this_seen, .int i_this_many, .ref a_this_told, .int i_this_right, .int i_this_mended, .int i_this_mask, .int i_this_turned, .ref a_this_word, .ref a_this_gone, .ref a_this_lines, .ref a_this_places, .ref a_this_square])), (a_this_bits, .inl (cI, n_this_bits, .inl f_this_bits)), (a_this_has, .inl (cZ, n_this_has, .inl f_this_has)), (a_this_values, .inl (cJ, n_this_values, .inr (.inl f_this_values)))] H := hP
    have hD : va_D A [(a_this, .inr (4, [.int v1, .int i_this_kind, .int i_this_form, .ref a_this_bits, .ref a_this_values, .ref a_this_has, .int i_this_fields, .int i_this_checks, .int i_this_symbols, .ref a_this_row, .int i_this_size, .ref a_this_seen, .int i_this_many, .ref a_this_told, .int i_this_right, .int i_this_mended, .int i_this_mask, .int i_this_turned, .ref a_this_word, .ref a_this_gone, .ref a_this_lines, .ref a_this_places, .ref a_this_square])), (a_this_bits, .inl (cI, n_this_bits, .inl f_this_bits)), (a_this_has, .inl (cZ, n_this_has, .inl f_this_has)), (a_this_values, .inl (cJ, n_this_values, .inr (.inl f_this_values)))] := hD
    refine lv_aload_n hx hb dX5_field_44 rfl (lv_at hl 0 rfl) ?_
    refine va_get (D := (dC, dI)) (ci := 4) (v := .int v1) (C := RX5) (T := TX5) (N := 23) hx hb hts hn_X5_field_X5 hown hK hP 0 rfl rfl 0 (by decide) (hts _ fl_X5_field_68) (fun _ h9 => h9) rfl dX5_field_45 ?_
    refine lv_if_ne (tgt := 65) hx hb dX5_field_48 (by decide) (fun c48 => ?_) (fun c48 => ?_)
    · replace h := im_f c48 h
      rw [eQ]
      exact W.vret hx hb hr (fun t ht hW => ⟨⟨(v1, f_this_has, f_this_values), rfl, Option.some.inj h, by rw [ht]; exact hP, va_K.moved hW.alike hK, hD⟩, hS.F ht⟩) hS.2.2 dX5_field_65
    · replace h := im_t c48 h
      refine lv_aload_n hx hb dX5_field_51 rfl (lv_at hl 0 rfl) ?_
      refine va_get (D := (dC, dI)) (ci := 4) (v := .ref a_this_values) (C := RX5) (T := TX5) (N := 23) hx hb hts hn_X5_field_X5 hown hK hP 0 rfl rfl 4 (by decide) (hts _ fl_X5_field_13) (fun _ h9 => h9) rfl dX5_field_52 ?_
      refine lv_iload_n hx hb dX5_field_55 rfl (lv_at hl 1 rfl) ?_
      refine lv_lload_n hx hb dX5_field_56 rfl (lv_at hl 2 rfl) ?_
      obtain ⟨q57, h⟩ := im_stL_u h
      refine va_last hx hb hK hP hD hS 3 1 rfl rfl q57 dX5_field_57 (fun H locs hP hD hS => ?_)
      obtain ⟨f3, ef3⟩ : ∃ g : Nat → Int64, g = vp_updL f_this_values x0.toNatClampNeg x1 := ⟨_, rfl⟩
      replace h := h f3 ef3
      rw [← ef3] at hP hD
      have hP : va_P (dC, dI) vwCl [(a_this, .inr (4, [.int v1, .int i_this_kind, .int i_this_form, .ref a_this_bits, .ref a_this_values, .ref a_this_has, .int i_this_fields, .int i_this_checks, .int i_this_symbols, .ref a_this_row, .int i_this_size, .ref a_this_seen, .int i_this_many, .ref a_this_told, .int i_this_right, .int i_this_mended, .int i_this_mask, .int i_this_turned, .ref a_this_word, .ref a_this_gone, .ref a_this_lines, .ref a_this_places, .ref a_this_square])), (a_this_bits, .inl (cI, n_this_bits, .inl f_this_bits)), (a_this_has, .inl (cZ, n_this_has, .inl f_this_has)), (a_this_values, .inl (cJ, n_this_values, .inr (.inl f3)))] H := hP
      have hD : va_D A [(a_this, .inr (4, [.int v1, .int i_this_kind, .int i_this_form, .ref a_this_bits, .ref a_this_values, .ref a_this_has, .int i_this_fields, .int i_this_checks, .int i_this_symbols, .ref a_this_row, .int i_this_size, .ref a_this_seen, .int i_this_many, .ref a_this_told, .int i_this_right, .int i_this_mended, .int i_this_mask, .int i_this_turned, .ref a_this_word, .ref a_this_gone, .ref a_this_lines, .ref a_this_places, .ref a_this_square])), (a_this_bits, .inl (cI, n_this_bits, .inl f_this_bits)), (a_this_has, .inl (cZ, n_this_has, .inl f_this_has)), (a_this_values, .inl (cJ, n_this_values, .inr (.inl f3)))] := hD
      refine lv_aload_n hx hb dX5_field_58 rfl (lv_at hl 0 rfl) ?_
      refine va_get (D := (dC, dI)) (ci := 4) (v := .ref a_this_has) (C := RX5) (T := TX5) (N := 23) hx hb hts hn_X5_field_X5 hown hK hP 0 rfl rfl 5 (by decide) (hts _ fl_X5_field_17) (fun _ h9 => h9) rfl dX5_field_59 ?_
      refine lv_iload_n hx hb dX5_field_62 rfl (lv_at hl 1 rfl) ?_
      refine lv_iconst (v := (1 : Int32)) hx hb dX5_field_63 (by decide) ?_
      obtain ⟨q64, h⟩ := im_st_u h
      refine va_zast hx hb hK hP hD hS 2 2 rfl rfl q64 dX5_field_64 (fun H locs hP hD hS => ?_)
      obtain ⟨f4, ef4⟩ : ∃ g : Nat → Int32, g = upd f_this_has x0.toNatClampNeg (1 : Int32) := ⟨_, rfl⟩
      replace h := h f4 ef4
      rw [im_nb (by decide), ← ef4] at hP hD
      have hP : va_P (dC, dI) vwCl [(a_this, .inr (4, [.int v1, .int i_this_kind, .int i_this_form, .ref a_this_bits, .ref a_this_values, .ref a_this_has, .int i_this_fields, .int i_this_checks, .int i_this_symbols, .ref a_this_row, .int i_this_size, .ref a_this_seen, .int i_this_many, .ref a_this_told, .int i_this_right, .int i_this_mended, .int i_this_mask, .int i_this_turned, .ref a_this_word, .ref a_this_gone, .ref a_this_lines, .ref a_this_places, .ref a_this_square])), (a_this_bits, .inl (cI, n_this_bits, .inl f_this_bits)), (a_this_has, .inl (cZ, n_this_has, .inl f4)), (a_this_values, .inl (cJ, n_this_values, .inr (.inl f3)))] H := hP
      have hD : va_D A [(a_this, .inr (4, [.int v1, .int i_this_kind, .int i_this_form, .ref a_this_bits, .ref a_this_values, .ref a_this_has, .int i_this_fields, .int i_this_checks, .int i_this_symbols, .ref a_this_row, .int i_this_size, .ref a_this_seen, .int i_this_many, .ref a_this_told, .int i_this_right, .int i_this_mended, .int i_this_mask, .int i_this_turned, .ref a_this_word, .ref a_this_gone, .ref a_this_lines, .ref a_this_places, .ref a_this_square])), (a_this_bits, .inl (cI, n_this_bits, .inl f_this_bits)), (a_this_has, .inl (cZ, n_this_has, .inl f4)), (a_this_values, .inl (cJ, n_this_values, .inr (.inl f3)))] := hD
      rw [eQ]
      exact W.vret hx hb hr (fun t ht hW => ⟨⟨(v1, f4, f3), rfl, Option.some.inj h, by rw [ht]; exact hP, va_K.moved hW.alike hK, hD⟩, hS.F ht⟩) hS.2.2 dX5_field_65
  · refine im_j0_u (P := ∀ (H : Heap) (locs : List Loc) (ls : Array Slot), va_P (dC, dI) vwCl [(a_this, .inr (4, [.int i_this_thrown, .int i_this_kind, .int i_this_form, .ref a_this_bits, .ref a_this_values, .ref a_this_has, .int i_this_fields, .int i_this_checks, .int i_this_symbols, .ref a_this_row, .int i_this_size, .ref a_this_seen, .int i_this_many, .ref a_this_told, .int i_this_right, .int i_this_mended, .int i_this_mask, .int i_this_turned, .ref a_this_word, .ref a_this_gone, .ref a_this_lines, .ref a_this_places, .ref a_this_square])), (a_this_bits, .inl (cI, n_this_bits, .inl f_this_bits)), (a_this_has, .inl (cZ, n_this_has, .inl f_this_has)), (a_this_values, .inl (cJ, n_this_values, .inr (.inl f_this_values)))] H → va_D A [(a_this, .inr (4, [.int i_this_thrown, .int i_this_kind, .int i_this_form, .ref a_this_bits, .ref a_this_values, .ref a_this_has, .int i_this_fields, .int i_this_checks, .int i_this_symbols, .ref a_this_row, .int i_this_size, .ref a_this_seen, .int i_this_many, .ref a_this_told, .int i_this_right, .int i_this_mended, .int i_this_mask, .int i_this_turned, .ref a_this_word, .ref a_this_gone, .ref a_this_lines, .ref a_this_places, .ref a_this_square])), (a_this_bits, .inl (cI, n_this_bits, .inl f_this_bits)), (a_this_has, .inl (cZ, n_this_has, .inl f_this_has)), (a_this_values, .inl (cJ, n_this_values, .inr (.inl f_this_values)))] → va_S A s.heap H locs → lv_has ls 4 [(0, .ref a_this), (1, .int x0), (2, .long x1)] → W p l e (headSpec wsX5_field rm_X5_field).room s m args below meth c H locs 0 0 Q (F0 m 13 ls [.ref a_this])) h (fun h H locs ls hP hD hS hl => ?_) (fun K5 J5 h => ?_)
    · refine lv_iconst (v := (1 : Int32)) hx hb dX5_field_13 (by decide) ?_
      refine lv_goto (tgt := 41) hx hb dX5_field_14 (by decide) ?_
      exact J2 (1 : Int32) h _ _ _ hP hD hS (lv_sub hl [0, 1, 2] rfl)
    · refine lv_aload_n hx hb dX5_field_0 rfl (lv_at hl 0 rfl) ?_
      refine lv_iload_n hx hb dX5_field_1 rfl (lv_at hl 1 rfl) ?_
      refine lv_if_lt (tgt := 13) hx hb dX5_field_2 (by decide) (fun c2 => ?_) (fun c2 => ?_)
      · replace h := im_t c2 h
        exact J5  h _ _ _ hP hD hS (lv_sub hl [0, 1, 2] rfl)
      · replace h := im_f c2 h
        refine lv_iload_n hx hb dX5_field_5 rfl (lv_at hl 1 rfl) ?_
        refine lv_aload_n hx hb dX5_field_6 rfl (lv_at hl 0 rfl) ?_
        refine va_get (D := (dC, dI)) (ci := 4) (v := .int i_this_fields) (C := RX5) (T := TX5) (N := 23) hx hb hts hn_X5_field_X5 hown hK hP 0 rfl rfl 6 (by decide) (hts _ fl_X5_field_59) (fun _ h9 => h9) rfl dX5_field_7 ?_
        refine lv_icmp_lt (tgt := 17) hx hb dX5_field_10 (by decide) (fun c10 => ?_) (fun c10 => ?_)
        · replace h := im_t c10 h
          refine im_j0_u (P := ∀ (H : Heap) (locs : List Loc) (ls : Array Slot), va_P (dC, dI) vwCl [(a_this, .inr (4, [.int i_this_thrown, .int i_this_kind, .int i_this_form, .ref a_this_bits, .ref a_this_values, .ref a_this_has, .int i_this_fields, .int i_this_checks, .int i_this_symbols, .ref a_this_row, .int i_this_size, .ref a_this_seen, .int i_this_many, .ref a_this_told, .int i_this_right, .int i_this_mended, .int i_this_mask, .int i_this_turned, .ref a_this_word, .ref a_this_gone, .ref a_this_lines, .ref a_this_places, .ref a_this_square])), (a_this_bits, .inl (cI, n_this_bits, .inl f_this_bits)), (a_this_has, .inl (cZ, n_this_has, .inl f_this_has)), (a_this_values, .inl (cJ, n_this_values, .inr (.inl f_this_values)))] H → va_D A [(a_this, .inr (4, [.int i_this_thrown, .int i_this_kind, .int i_this_form, .ref a_this_bits, .ref a_this_values, .ref a_this_has, .int i_this_fields, .int i_this_checks, .int i_this_symbols, .ref a_this_row, .int i_this_size, .ref a_this_seen, .int i_this_many, .ref a_this_told, .int i_this_right, .int i_this_mended, .int i_this_mask, .int i_this_turned, .ref a_this_word, .ref a_this_gone, .ref a_this_lines, .ref a_this_places, .ref a_this_square])), (a_this_bits, .inl (cI, n_this_bits, .inl f_this_bits)), (a_this_has, .inl (cZ, n_this_has, .inl f_this_has)), (a_this_values, .inl (cJ, n_this_values, .inr (.inl f_this_values)))] → va_S A s.heap H locs → lv_has ls 4 [(0, .ref a_this), (1, .int x0), (2, .long x1)] → W p l e (headSpec wsX5_field rm_X5_field).room s m args below meth c H locs 0 0 Q (F0 m 36 ls [.ref a_this])) h (fun h H locs ls hP hD hS hl => ?_) (fun K6 J6 h => ?_)
          · refine lv_iconst (v := (2 : Int32)) hx hb dX5_field_36 (by decide) ?_
            refine lv_goto (tgt := 41) hx hb dX5_field_37 (by decide) ?_
            exact J2 (2 : Int32) h _ _ _ hP hD hS (lv_sub hl [0, 1, 2] rfl)
          · refine lv_lload_n hx hb dX5_field_17 rfl (lv_at hl 2 rfl) ?_
            refine lv_lconst (v := (0 : Int64)) hx hb dX5_field_18 (by decide) ?_
            refine W.lcmp hx hb dX5_field_19 ?_
            refine lv_topi (fun v7 ev7 => ?_)
            replace h := im_lt_u h v7 ev7
            refine lv_if_lt (tgt := 36) hx hb dX5_field_20 (by decide) (fun c20 => ?_) (fun c20 => ?_)
            · replace h := im_t c20 h
              exact J6  h _ _ _ hP hD hS (lv_sub hl [0, 1, 2] rfl)
            · replace h := im_f c20 h
              refine lv_lload_n hx hb dX5_field_23 rfl (lv_at hl 2 rfl) ?_
              refine lv_aload_n hx hb dX5_field_24 rfl (lv_at hl 0 rfl) ?_
              refine va_get (D := (dC, dI)) (ci := 4) (v := .ref a_this_bits) (C := RX5) (T := TX5) (N := 23) hx hb hts hn_X5_field_X5 hown hK hP 0 rfl rfl 3 (by decide) (hts _ fl_X5_field_7) (fun _ h9 => h9) rfl dX5_field_25 ?_
              refine lv_iload_n hx hb dX5_field_28 rfl (lv_at hl 1 rfl) ?_
              obtain ⟨q29, h⟩ := im_ld_u h
              refine va_iald hx hb hK hP 1 0 rfl rfl q29 dX5_field_29 ?_
              refine lv_topi (fun v8 ev8 => ?_)
              replace h := h v8 ev8
              refine lv_lshr hx hb dX5_field_30 rfl ?_
              refine lv_topl (fun v9 ev9 => ?_)
              replace h := im_lt_u h v9 ev9
              refine lv_lconst (v := (0 : Int64)) hx hb dX5_field_31 (by decide) ?_
              refine W.lcmp hx hb dX5_field_32 ?_
              refine lv_topi (fun v10 ev10 => ?_)
              replace h := im_lt_u h v10 ev10
              refine lv_if_eq (tgt := 40) hx hb dX5_field_33 (by decide) (fun c33 => ?_) (fun c33 => ?_)
              · replace h := im_t c33 h
                refine lv_iconst (v := (0 : Int32)) hx hb dX5_field_40 (by decide) ?_
                exact J2 (0 : Int32) h _ _ _ hP hD hS (lv_sub hl [0, 1, 2] rfl)
              · replace h := im_f c33 h
                exact J6  h _ _ _ hP hD hS (lv_sub hl [0, 1, 2] rfl)
        · replace h := im_f c10 h
          exact J5  h _ _ _ hP hD hS (lv_sub hl [0, 1, 2] rfl)
def im_X5_isWhole_L4 (i_this_fields : Int32) (n_this_has : Nat) (f_this_has : Nat → Int32) : Nat → Int32 → Int32 → Option (Int32)
  | 0, _, _ => none
  | n + 1, v1, v2 => if i_this_fields ≤ v2 then im_as (v1 = 0 ∨ v1 = 1) ((some v1)) else im_j1 (fun (v4 : Int32) => im_lt (v2 + (1 : Int32)) (fun v6 => (im_X5_isWhole_L4 i_this_fields n_this_has f_this_has n v4 v6))) (fun K5 => im_j0 ((K5 (0 : Int32))) (fun K7 => if v1 = 0 then (K7) else im_ld n_this_has f_this_has v2 (fun v8 => if v8 = 0 then (K7) else (K5 (1 : Int32)))))
def im_X5_isWhole (i_this_fields : Int32) (n_this_has : Nat) (f_this_has : Nat → Int32) : Option (Int32) := (im_X5_isWhole_L4 i_this_fields n_this_has f_this_has 5000 (1 : Int32) (0 : Int32))
abbrev rm_X5_isWhole : Room := { frames := 0, cells := 0, slots := 0, locals := 0 }
theorem hn_X5_isWhole_X5 : ∀ w ∈ wsX50, w ∈ wsX5_isWhole := by decide +kernel
theorem fl_X5_isWhole_59 : Cond.fieldLink RX5 59 "BarCodesModel" "fields" "I" ∈ wsX5_isWhole := by decide +kernel
theorem fl_X5_isWhole_17 : Cond.fieldLink RX5 17 "BarCodesModel" "has" "[Z" ∈ wsX5_isWhole := by decide +kernel
set_option maxHeartbeats 4000000 in
set_option maxRecDepth 100000 in
theorem c_X5_isWhole (l : Launch) (dC : Nat → ClassId) (dI : Nat → Nat → Nat) (cI cJ cZ : ClassId) (a_this a_this_bits a_this_values a_this_has a_this_row a_this_seen a_this_told a_this_word a_this_gone a_this_lines a_this_places a_this_square : Nat) (i_this_thrown i_this_kind i_this_form i_this_fields i_this_checks i_this_symbols i_this_size i_this_many i_this_right i_this_mended i_this_mask i_this_turned : Int32) (n_this_has : Nat) (f_this_has : Nat → Int32) {r : Int32} (h : im_X5_isWhole i_this_fields n_this_has f_this_has = some r) : Met l yX5_isWhole wsX5_isWhole rm_X5_isWhole (va_Pc [.ref a_this] (fun U => va_P (dC, dI) vwCl [(a_this, .inr (4, [.int i_this_thrown, .int i_this_kind, .int i_this_form, .ref a_this_bits, .ref a_this_values, .ref a_this_has, .int i_this_fields, .int i_this_checks, .int i_this_symbols, .ref a_this_row, .int i_this_size, .ref a_this_seen, .int i_this_many, .ref a_this_told, .int i_this_right, .int i_this_mended, .int i_this_mask, .int i_this_turned, .ref a_this_word, .ref a_this_gone, .ref a_this_lines, .ref a_this_places, .ref a_this_square])), (a_this_has, .inl (cZ, n_this_has, .inl f_this_has))] U.heap ∧ va_K (dC, dI) vwCl [(cI, .int), (cJ, .long), (cZ, .boolean)] U)) (vp_Si (fun r9 => r9 = r)) 0 0 (fun _ => False) := by
  refine Met.ofW (cc := cX5_isWhole) (maxL := 3) (ret := (some .boolean)) (by decide) rfl ?_
  intro p e s m args below meth c s₁ B hml hv
  obtain ⟨eargs, hP, hK⟩ := hv
  have hx := B.exec
  have hb := B.bytes
  have hr := B.returns
  have hts := atoms_spec (ws := wsX5_isWhole) B.pre
  have hown : s.vm.findClass RX5 = some m.cls := findClass_of_methodNamed B.named
  have hlocks := B.notSynchronized
  refine im_Q (fun Q eQ => ?_)
  have hl := lv_entry [.ref a_this] (n := 3) (Nat.le_of_ble_eq_true rfl)
  rw [show entryFrame m args 3 = entryFrame m ([.ref a_this] : List Value).toArray 3 by rw [eargs], lg_entry_eq]
  generalize (lg_sl ([.ref a_this]) ++ List.replicate (3 - (lg_sl ([.ref a_this])).length) Slot.unset).toArray = ls at hl ⊢
  have hl : lv_has ls 3 [(0, .ref a_this)] := hl
  rw [im_X5_isWhole] at h
  refine lv_iconst (v := (1 : Int32)) hx hb dX5_isWhole_0 (by decide) ?_
  refine lv_istore_n (lv' := [(1, .int (1 : Int32)), (0, .ref a_this)]) hx hb dX5_isWhole_1 rfl hl (by decide) rfl (fun ls hl => ?_)
  refine lv_iconst (v := (0 : Int32)) hx hb dX5_isWhole_2 (by decide) ?_
  refine lv_istore_n (lv' := [(2, .int (0 : Int32)), (1, .int (1 : Int32)), (0, .ref a_this)]) hx hb dX5_isWhole_3 rfl hl (by decide) rfl (fun ls hl => ?_)
  have Lp3 : ∀ (n : Nat) (v1 : Int32) (v2 : Int32), im_X5_isWhole_L4 i_this_fields n_this_has f_this_has n v1 v2 = some r → ∀ (ls : Array Slot), lv_has ls 3 [(0, .ref a_this), (1, .int v1), (2, .int v2)] → W p l e (headSpec wsX5_isWhole rm_X5_isWhole).room s m args below meth c s.heap [] 0 0 Q (F0 m 4 ls []) := by
    intro n
    induction n with
    | zero => intro v1 v2 h; rw [im_X5_isWhole_L4] at h; cases h
    | succ n ih =>
      intro v1 v2 h ls hl
      rw [im_X5_isWhole_L4] at h
      refine lv_iload_n hx hb dX5_isWhole_4 rfl (lv_at hl 2 rfl) ?_
      refine lv_aload_n hx hb dX5_isWhole_5 rfl (lv_at hl 0 rfl) ?_
      refine va_get (D := (dC, dI)) (ci := 4) (v := .int i_this_fields) (C := RX5) (T := TX5) (N := 23) hx hb hts hn_X5_isWhole_X5 hown hK hP 0 rfl rfl 6 (by decide) (hts _ fl_X5_isWhole_59) (fun _ h9 => h9) rfl dX5_isWhole_6 ?_
      refine lv_icmp_ge (tgt := 37) hx hb dX5_isWhole_9 (by decide) (fun c9 => ?_) (fun c9 => ?_)
      · replace h := im_t c9 h
        refine lv_iload_n hx hb dX5_isWhole_37 rfl (lv_at hl 1 rfl) ?_
        obtain ⟨z38, h⟩ := im_as_u h
        rw [eQ]
        exact W.zret (ty := .boolean) (v := v1) hx hb hr (im_nz z38) (fun t ht hW => ⟨_, rfl, Option.some.inj h, ht⟩) (fun _ h9 => by cases h9) dX5_isWhole_38
      · replace h := im_f c9 h
        refine im_j1_u (P := fun v4 => ∀ (ls : Array Slot), lv_has ls 3 [(0, .ref a_this), (2, .int v2)] → W p l e (headSpec wsX5_isWhole rm_X5_isWhole).room s m args below meth c s.heap [] 0 0 Q (F0 m 30 ls [.int v4])) h (fun v4 h ls hl => ?_) (fun K5 J5 h => ?_)
        · refine lv_istore_n (lv' := [(1, .int v4), (0, .ref a_this), (2, .int v2)]) hx hb dX5_isWhole_30 rfl hl (by decide) rfl (fun ls hl => ?_)
          obtain ⟨v6, ev6⟩ : ∃ y : Int32, y = (v2 + (1 : Int32)) := ⟨_, rfl⟩
          replace h := im_lt_u h v6 ev6
          refine lv_iinc (v := v6) (lv' := [(2, .int v6), (1, .int v4), (0, .ref a_this)]) hx hb dX5_isWhole_31 hl (k := 2) rfl (by rw [ev6]; rfl) (by decide) rfl (fun ls hl => ?_)
          refine lv_goto (tgt := 4) hx hb dX5_isWhole_34 (by decide) ?_
          exact ih v4 v6 h _ (lv_sub hl [2, 1, 0] rfl)
        · refine im_j0_u (P := ∀ (ls : Array Slot), lv_has ls 3 [(0, .ref a_this), (2, .int v2)] → W p l e (headSpec wsX5_isWhole rm_X5_isWhole).room s m args below meth c s.heap [] 0 0 Q (F0 m 29 ls [])) h (fun h ls hl => ?_) (fun K7 J7 h => ?_)
          · refine lv_iconst (v := (0 : Int32)) hx hb dX5_isWhole_29 (by decide) ?_
            exact J5 (0 : Int32) h _ (lv_sub hl [0, 1] rfl)
          · refine lv_iload_n hx hb dX5_isWhole_12 rfl (lv_at hl 1 rfl) ?_
            refine lv_if_eq (tgt := 29) hx hb dX5_isWhole_13 (by decide) (fun c13 => ?_) (fun c13 => ?_)
            · replace h := im_t c13 h
              exact J7  h _ (lv_sub hl [0, 2] rfl)
            · replace h := im_f c13 h
              refine lv_aload_n hx hb dX5_isWhole_16 rfl (lv_at hl 0 rfl) ?_
              refine va_get (D := (dC, dI)) (ci := 4) (v := .ref a_this_has) (C := RX5) (T := TX5) (N := 23) hx hb hts hn_X5_isWhole_X5 hown hK hP 0 rfl rfl 5 (by decide) (hts _ fl_X5_isWhole_17) (fun _ h9 => h9) rfl dX5_isWhole_17 ?_
              refine lv_iload_n hx hb dX5_isWhole_20 rfl (lv_at hl 2 rfl) ?_
              obtain ⟨q21, h⟩ := im_ld_u h
              refine va_zald hx hb hK hP 1 2 rfl rfl q21 dX5_isWhole_21 ?_
              refine lv_topi (fun v8 ev8 => ?_)
              replace h := h v8 ev8
              refine lv_if_eq (tgt := 29) hx hb dX5_isWhole_22 (by decide) (fun c22 => ?_) (fun c22 => ?_)
              · replace h := im_t c22 h
                exact J7  h _ (lv_sub hl [0, 2] rfl)
              · replace h := im_f c22 h
                refine lv_iconst (v := (1 : Int32)) hx hb dX5_isWhole_25 (by decide) ?_
                refine lv_goto (tgt := 30) hx hb dX5_isWhole_26 (by decide) ?_
                exact J5 (1 : Int32) h _ (lv_sub hl [0, 2] rfl)
  exact Lp3 5000 (1 : Int32) (0 : Int32) h _ (lv_sub hl [2, 1, 0] rfl)
def im_X5_pack_L68 (K12 : Int32 → (Nat → Int32) → Option ((Nat → Int32) × (Nat → Int32))) (n_this_word : Nat) (n_this_values : Nat) (f_this_values : Nat → Int64) (v5 : Int32) : Nat → Int32 → Int32 → (Nat → Int32) → Option ((Nat → Int32) × (Nat → Int32))
  | 0, _, _, _ => none
  | n + 1, v14, v15, f16 => if v15 < 0 then (K12 v14 f16) else im_lt (v14 / (6 : Int32)) (fun v18 => im_lt (v14 / (6 : Int32)) (fun v19 => im_ld n_this_word f16 v19 (fun v20 => im_lt (v20 * (2 : Int32)) (fun v21 => im_ld n_this_values f_this_values v5 (fun v22 => im_lt (v22 >>> (v15.toInt64 &&& 63)) (fun v23 => im_lt (v23 &&& (1 : Int64)) (fun v24 => im_lt v24.toInt32 (fun v25 => im_lt (v21 + v25) (fun v26 => im_st n_this_word f16 v18 v26 (fun f27 => im_lt (v14 + (1 : Int32)) (fun v28 => im_lt (v15 + (-1 : Int32)) (fun v29 => (im_X5_pack_L68 K12 n_this_word n_this_values f_this_values v5 n v28 v29 f27)))))))))))))
def im_X5_pack_L51 (i_this_fields : Int32) (f1 : Nat → Int32) (n_this_bits : Nat) (f_this_bits : Nat → Int32) (n_this_word : Nat) (n_this_values : Nat) (f_this_values : Nat → Int64) : Nat → Int32 → Int32 → (Nat → Int32) → Option ((Nat → Int32) × (Nat → Int32))
  | 0, _, _, _ => none
  | n + 1, v4, v5, f6 => if i_this_fields ≤ v5 then (some (f1, f6)) else im_ld n_this_bits f_this_bits v5 (fun v8 => im_lt (v8 - (1 : Int32)) (fun v9 => im_j2 (fun (v10 : Int32) (f11 : Nat → Int32) => im_lt (v5 + (1 : Int32)) (fun v13 => (im_X5_pack_L51 i_this_fields f1 n_this_bits f_this_bits n_this_word n_this_values f_this_values n v10 v13 f11))) (fun K12 => (im_X5_pack_L68 K12 n_this_word n_this_values f_this_values v5 5000 v4 v9 f6))))
def im_X5_pack_L2 (i_this_symbols : Int32) (K3 : (Nat → Int32) → (Nat → Int32) → Option ((Nat → Int32) × (Nat → Int32))) (n_this_gone : Nat) (n_this_word : Nat) (i_this_checks : Int32) : Nat → Int32 → (Nat → Int32) → (Nat → Int32) → Option ((Nat → Int32) × (Nat → Int32))
  | 0, _, _, _ => none
  | n + 1, v30, f31, f32 => if i_this_symbols ≤ v30 then (K3 f31 f32) else im_j3 (fun (v34 : Int32) (v35 : Int32) (f36 : Nat → Int32) => im_as (v34 = 0 ∨ v34 = 1) (im_st n_this_gone f31 v35 v34 (fun f38 => im_lt (v30 + (1 : Int32)) (fun v39 => (im_X5_pack_L2 i_this_symbols K3 n_this_gone n_this_word i_this_checks n v39 f38 f36))))) (fun K37 => im_st n_this_word f32 v30 (0 : Int32) (fun f40 => im_lt (i_this_symbols - i_this_checks) (fun v41 => if v30 < v41 then (K37 (0 : Int32) v30 f40) else (K37 (1 : Int32) v30 f40))))
def im_X5_pack (i_this_fields : Int32) (i_this_checks : Int32) (i_this_symbols : Int32) (n_this_bits : Nat) (n_this_gone : Nat) (n_this_values : Nat) (n_this_word : Nat) (f_this_bits : Nat → Int32) (f_this_gone : Nat → Int32) (f_this_values : Nat → Int64) (f_this_word : Nat → Int32) : Option ((Nat → Int32) × (Nat → Int32)) := im_j2 (fun (f1 : Nat → Int32) (f2 : Nat → Int32) => (im_X5_pack_L51 i_this_fields f1 n_this_bits f_this_bits n_this_word n_this_values f_this_values 5000 (0 : Int32) (0 : Int32) f2)) (fun K3 => (im_X5_pack_L2 i_this_symbols K3 n_this_gone n_this_word i_this_checks 5000 (0 : Int32) f_this_gone f_this_word))
abbrev rm_X5_pack : Room := { frames := 0, cells := 0, slots := 0, locals := 0 }
theorem hn_X5_pack_X5 : ∀ w ∈ wsX50, w ∈ wsX5_pack := by decide +kernel
theorem fl_X5_pack_59 : Cond.fieldLink RX5 59 "BarCodesModel" "fields" "I" ∈ wsX5_pack := by decide +kernel
theorem fl_X5_pack_7 : Cond.fieldLink RX5 7 "BarCodesModel" "bits" "[I" ∈ wsX5_pack := by decide +kernel
theorem fl_X5_pack_37 : Cond.fieldLink RX5 37 "BarCodesModel" "word" "[I" ∈ wsX5_pack := by decide +kernel
theorem fl_X5_pack_13 : Cond.fieldLink RX5 13 "BarCodesModel" "values" "[J" ∈ wsX5_pack := by decide +kernel
theorem fl_X5_pack_65 : Cond.fieldLink RX5 65 "BarCodesModel" "symbols" "I" ∈ wsX5_pack := by decide +kernel
theorem fl_X5_pack_40 : Cond.fieldLink RX5 40 "BarCodesModel" "gone" "[Z" ∈ wsX5_pack := by decide +kernel
theorem fl_X5_pack_62 : Cond.fieldLink RX5 62 "BarCodesModel" "checks" "I" ∈ wsX5_pack := by decide +kernel
set_option maxHeartbeats 4000000 in
set_option maxRecDepth 100000 in
theorem c_X5_pack (l : Launch) (dC : Nat → ClassId) (dI : Nat → Nat → Nat) (cI cJ cZ : ClassId) (sz : Nat) (a_this a_this_bits a_this_values a_this_has a_this_row a_this_seen a_this_told a_this_word a_this_gone a_this_lines a_this_places a_this_square : Nat) (i_this_thrown i_this_kind i_this_form i_this_fields i_this_checks i_this_symbols i_this_size i_this_many i_this_right i_this_mended i_this_mask i_this_turned : Int32) (n_this_bits n_this_gone n_this_values n_this_word : Nat) (f_this_bits : Nat → Int32) (f_this_gone : Nat → Int32) (f_this_values : Nat → Int64) (f_this_word : Nat → Int32) {r : (Nat → Int32) × (Nat → Int32)} (h : im_X5_pack i_this_fields i_this_checks i_this_symbols n_this_bits n_this_gone n_this_values n_this_word f_this_bits f_this_gone f_this_values f_this_word = some r) : Met l yX5_pack wsX5_pack rm_X5_pack (va_Pc [.ref a_this] (fun U => U.heap.size = sz ∧ va_P (dC, dI) vwCl [(a_this, .inr (4, [.int i_this_thrown, .int i_this_kind, .int i_this_form, .ref a_this_bits, .ref a_this_values, .ref a_this_has, .int i_this_fields, .int i_this_checks, .int i_this_symbols, .ref a_this_row, .int i_this_size, .ref a_this_seen, .int i_this_many, .ref a_this_told, .int i_this_right, .int i_this_mended, .int i_this_mask, .int i_this_turned, .ref a_this_word, .ref a_this_gone, .ref a_this_lines, .ref a_this_places, .ref a_this_square])), (a_this_bits, .inl (cI, n_this_bits, .inl f_this_bits)), (a_this_gone, .inl (cZ, n_this_gone, .inl f_this_gone)), (a_this_values, .inl (cJ, n_this_values, .inr (.inl f_this_values))), (a_this_word, .inl (cI, n_this_word, .inl f_this_word))] U.heap ∧ va_K (dC, dI) vwCl [(cI, .int), (cJ, .long), (cZ, .boolean)] U ∧ va_D (fun _ => True) [(a_this, .inr (4, [.int i_this_thrown, .int i_this_kind, .int i_this_form, .ref a_this_bits, .ref a_this_values, .ref a_this_has, .int i_this_fields, .int i_this_checks, .int i_this_symbols, .ref a_this_row, .int i_this_size, .ref a_this_seen, .int i_this_many, .ref a_this_told, .int i_this_right, .int i_this_mended, .int i_this_mask, .int i_this_turned, .ref a_this_word, .ref a_this_gone, .ref a_this_lines, .ref a_this_places, .ref a_this_square])), (a_this_bits, .inl (cI, n_this_bits, .inl f_this_bits)), (a_this_gone, .inl (cZ, n_this_gone, .inl f_this_gone)), (a_this_values, .inl (cJ, n_this_values, .inr (.inl f_this_values))), (a_this_word, .inl (cI, n_this_word, .inl f_this_word))])) (va_Qv (S := (Nat → Int32) × (Nat → Int32)) (fun u9 => u9 = r) (fun u9 t9 => va_P (dC, dI) vwCl [(a_this, .inr (4, [.int i_this_thrown, .int i_this_kind, .int i_this_form, .ref a_this_bits, .ref a_this_values, .ref a_this_has, .int i_this_fields, .int i_this_checks, .int i_this_symbols, .ref a_this_row, .int i_this_size, .ref a_this_seen, .int i_this_many, .ref a_this_told, .int i_this_right, .int i_this_mended, .int i_this_mask, .int i_this_turned, .ref a_this_word, .ref a_this_gone, .ref a_this_lines, .ref a_this_places, .ref a_this_square])), (a_this_bits, .inl (cI, n_this_bits, .inl f_this_bits)), (a_this_gone, .inl (cZ, n_this_gone, .inl (u9.1))), (a_this_values, .inl (cJ, n_this_values, .inr (.inl f_this_values))), (a_this_word, .inl (cI, n_this_word, .inl (u9.2)))] t9.heap ∧ va_K (dC, dI) vwCl [(cI, .int), (cJ, .long), (cZ, .boolean)] t9 ∧ va_D (va_A [(a_this, .inr (4, [.int i_this_thrown, .int i_this_kind, .int i_this_form, .ref a_this_bits, .ref a_this_values, .ref a_this_has, .int i_this_fields, .int i_this_checks, .int i_this_symbols, .ref a_this_row, .int i_this_size, .ref a_this_seen, .int i_this_many, .ref a_this_told, .int i_this_right, .int i_this_mended, .int i_this_mask, .int i_this_turned, .ref a_this_word, .ref a_this_gone, .ref a_this_lines, .ref a_this_places, .ref a_this_square])), (a_this_bits, .inl (cI, n_this_bits, .inl f_this_bits)), (a_this_gone, .inl (cZ, n_this_gone, .inl f_this_gone)), (a_this_values, .inl (cJ, n_this_values, .inr (.inl f_this_values))), (a_this_word, .inl (cI, n_this_word, .inl f_this_word))] sz) [(a_this, .inr (4, [.int i_this_thrown, .int i_this_kind, .int i_this_form, .ref a_this_bits, .ref a_this_values, .ref a_this_has, .int i_this_fields, .int i_this_checks, .int i_this_symbols, .ref a_this_row, .int i_this_size, .ref a_this_seen, .int i_this_many, .ref a_this_told, .int i_this_right, .int i_this_mended, .int i_this_mask, .int i_this_turned, .ref a_this_word, .ref a_this_gone, .ref a_this_lines, .ref a_this_places, .ref a_this_square])), (a_this_bits, .inl (cI, n_this_bits, .inl f_this_bits)), (a_this_gone, .inl (cZ, n_this_gone, .inl (u9.1))), (a_this_values, .inl (cJ, n_this_values, .inr (.inl f_this_values))), (a_this_word, .inl (cI, n_this_word, .inl (u9.2)))]) (va_A [(a_this, .inr (4, [.int i_this_thrown, .int i_this_kind, .int i_this_form, .ref a_this_bits, .ref a_this_values, .ref a_this_has, .int i_this_fields, .int i_this_checks, .int i_this_symbols, .ref a_this_row, .int i_this_size, .ref a_this_seen, .int i_this_many, .ref a_this_told, .int i_this_right, .int i_this_mended, .int i_this_mask, .int i_this_turned, .ref a_this_word, .ref a_this_gone, .ref a_this_lines, .ref a_this_places, .ref a_this_square])), (a_this_bits, .inl (cI, n_this_bits, .inl f_this_bits)), (a_this_gone, .inl (cZ, n_this_gone, .inl f_this_gone)), (a_this_values, .inl (cJ, n_this_values, .inr (.inl f_this_values))), (a_this_word, .inl (cI, n_this_word, .inl f_this_word))] sz)) 0 0 (va_A [(a_this, .inr (4, [.int i_this_thrown, .int i_this_kind, .int i_this_form, .ref a_this_bits, .ref a_this_values, .ref a_this_has, .int i_this_fields, .int i_this_checks, .int i_this_symbols, .ref a_this_row, .int i_this_size, .ref a_this_seen, .int i_this_many, .ref a_this_told, .int i_this_right, .int i_this_mended, .int i_this_mask, .int i_this_turned, .ref a_this_word, .ref a_this_gone, .ref a_this_lines, .ref a_this_places, .ref a_this_square])), (a_this_bits, .inl (cI, n_this_bits, .inl f_this_bits)), (a_this_gone, .inl (cZ, n_this_gone, .inl f_this_gone)), (a_this_values, .inl (cJ, n_this_values, .inr (.inl f_this_values))), (a_this_word, .inl (cI, n_this_word, .inl f_this_word))] sz) := by
  refine Met.ofW (cc := cX5_pack) (maxL := 4) (ret := none) (by decide) rfl ?_
  intro p e s m args below meth c s₁ B hml hv
  obtain ⟨eargs, hsz, hP, hK, hD0⟩ := hv
  have hx := B.exec
  have hb := B.bytes
  have hr := B.returns
  have hts := atoms_spec (ws := wsX5_pack) B.pre
  have hown : s.vm.findClass RX5 = some m.cls := findClass_of_methodNamed B.named
  have hlocks := B.notSynchronized
  refine im_Q (fun Q eQ => ?_)
  subst hsz
  have hD := hD0.self (sz := s.heap.size)
  generalize hAe : va_A [(a_this, .inr (4, [.int i_this_thrown, .int i_this_kind, .int i_this_form, .ref a_this_bits, .ref a_this_values, .ref a_this_has, .int i_this_fields, .int i_this_checks, .int i_this_symbols, .ref a_this_row, .int i_this_size, .ref a_this_seen, .int i_this_many, .ref a_this_told, .int i_this_right, .int i_this_mended, .int i_this_mask, .int i_this_turned, .ref a_this_word, .ref a_this_gone, .ref a_this_lines, .ref a_this_places, .ref a_this_square])), (a_this_bits, .inl (cI, n_this_bits, .inl f_this_bits)), (a_this_gone, .inl (cZ, n_this_gone, .inl f_this_gone)), (a_this_values, .inl (cJ, n_this_values, .inr (.inl f_this_values))), (a_this_word, .inl (cI, n_this_word, .inl f_this_word))] s.heap.size = A at hD eQ
  have hA : ∀ q : Nat, s.heap.size ≤ q → A q := fun q h => by rw [← hAe]; exact Or.inr h
  have hS : va_S A s.heap s.heap [] := va_S.rf
  have hl := lv_entry [.ref a_this] (n := 4) (Nat.le_of_ble_eq_true rfl)
  rw [show entryFrame m args 4 = entryFrame m ([.ref a_this] : List Value).toArray 4 by rw [eargs], lg_entry_eq]
  generalize (lg_sl ([.ref a_this]) ++ List.replicate (4 - (lg_sl ([.ref a_this])).length) Slot.unset).toArray = ls at hl ⊢
  have hl : lv_has ls 4 [(0, .ref a_this)] := hl
  rw [im_X5_pack] at h
  refine lv_iconst (v := (0 : Int32)) hx hb dX5_pack_0 (by decide) ?_
  refine lv_istore_n (lv' := [(1, .int (0 : Int32)), (0, .ref a_this)]) hx hb dX5_pack_1 rfl hl (by decide) rfl (fun ls hl => ?_)
  refine im_j2_u (P := fun f1 f2 => ∀ (H : Heap) (locs : List Loc) (ls : Array Slot), va_P (dC, dI) vwCl [(a_this, .inr (4, [.int i_this_thrown, .int i_this_kind, .int i_this_form, .ref a_this_bits, .ref a_this_values, .ref a_this_has, .int i_this_fields, .int i_this_checks, .int i_this_symbols, .ref a_this_row, .int i_this_size, .ref a_this_seen, .int i_this_many, .ref a_this_told, .int i_this_right, .int i_this_mended, .int i_this_mask, .int i_this_turned, .ref a_this_word, .ref a_this_gone, .ref a_this_lines, .ref a_this_places, .ref a_this_square])), (a_this_bits, .inl (cI, n_this_bits, .inl f_this_bits)), (a_this_gone, .inl (cZ, n_this_gone, .inl f1)), (a_this_values, .inl (cJ, n_this_values, .inr (.inl f_this_values))), (a_this_word, .inl (cI, n_this_word, .inl f2))] H → va_D A [(a_this, .inr (4, [.int i_this_thrown, .int i_this_kind, .int i_this_form, .ref a_this_bits, .ref a_this_values, .ref a_this_has, .int i_this_fields, .int i_this_checks, .int i_this_symbols, .ref a_this_row, .int i_this_size, .ref a_this_seen, .int i_this_many, .ref a_this_told, .int i_this_right, .int i_this_mended, .int i_this_mask, .int i_this_turned, .ref a_this_word, .ref a_this_gone, .ref a_this_lines, .ref a_this_places, .ref a_this_square])), (a_this_bits, .inl (cI, n_this_bits, .inl f_this_bits)), (a_this_gone, .inl (cZ, n_this_gone, .inl f1)), (a_this_values, .inl (cJ, n_this_values, .inr (.inl f_this_values))), (a_this_word, .inl (cI, n_this_word, .inl f2))] → va_S A s.heap H locs → lv_has ls 4 [(0, .ref a_this)] → W p l e (headSpec wsX5_pack rm_X5_pack).room s m args below meth c H locs 0 0 Q (F0 m 47 ls [])) h (fun f1 f2 h H locs ls hP hD hS hl => ?_) (fun K3 J3 h => ?_)
  · refine lv_iconst (v := (0 : Int32)) hx hb dX5_pack_47 (by decide) ?_
    refine lv_istore_n (lv' := [(1, .int (0 : Int32)), (0, .ref a_this)]) hx hb dX5_pack_48 rfl hl (by decide) rfl (fun ls hl => ?_)
    refine lv_iconst (v := (0 : Int32)) hx hb dX5_pack_49 (by decide) ?_
    refine lv_istore_n (lv' := [(2, .int (0 : Int32)), (1, .int (0 : Int32)), (0, .ref a_this)]) hx hb dX5_pack_50 rfl hl (by decide) rfl (fun ls hl => ?_)
    have Lp7 : ∀ (n : Nat) (v4 : Int32) (v5 : Int32) (f6 : Nat → Int32), im_X5_pack_L51 i_this_fields f1 n_this_bits f_this_bits n_this_word n_this_values f_this_values n v4 v5 f6 = some r → ∀ (H : Heap) (locs : List Loc) (ls : Array Slot), va_P (dC, dI) vwCl [(a_this, .inr (4, [.int i_this_thrown, .int i_this_kind, .int i_this_form, .ref a_this_bits, .ref a_this_values, .ref a_this_has, .int i_this_fields, .int i_this_checks, .int i_this_symbols, .ref a_this_row, .int i_this_size, .ref a_this_seen, .int i_this_many, .ref a_this_told, .int i_this_right, .int i_this_mended, .int i_this_mask, .int i_this_turned, .ref a_this_word, .ref a_this_gone, .ref a_this_lines, .ref a_this_places, .ref a_this_square])), (a_this_bits, .inl (cI, n_this_bits, .inl f_this_bits)), (a_this_gone, .inl (cZ, n_this_gone, .inl f1)), (a_this_values, .inl (cJ, n_this_values, .inr (.inl f_this_values))), (a_this_word, .inl (cI, n_this_word, .inl f6))] H → va_D A [(a_this, .inr (4, [.int i_this_thrown, .int i_this_kind, .int i_this_form, .ref a_this_bits, .ref a_this_values, .ref a_this_has, .int i_this_fields, .int i_this_checks, .int i_this_symbols, .ref a_this_row, .int i_this_size, .ref a_this_seen, .int i_this_many, .ref a_this_told, .int i_this_right, .int i_this_mended, .int i_this_mask, .int i_this_turned, .ref a_this_word, .ref a_this_gone, .ref a_this_lines, .ref a_this_places, .ref a_this_square])), (a_this_bits, .inl (cI, n_this_bits, .inl f_this_bits)), (a_this_gone, .inl (cZ, n_this_gone, .inl f1)), (a_this_values, .inl (cJ, n_this_values, .inr (.inl f_this_values))), (a_this_word, .inl (cI, n_this_word, .inl f6))] → va_S A s.heap H locs → lv_has ls 4 [(0, .ref a_this), (1, .int v4), (2, .int v5)] → W p l e (headSpec wsX5_pack rm_X5_pack).room s m args below meth c H locs 0 0 Q (F0 m 51 ls []) := by
      intro n
      induction n with
      | zero => intro v4 v5 f6 h; rw [im_X5_pack_L51] at h; cases h
      | succ n ih =>
        intro v4 v5 f6 h H locs ls hP hD hS hl
        rw [im_X5_pack_L51] at h
        refine lv_iload_n hx hb dX5_pack_51 rfl (lv_at hl 2 rfl) ?_
        refine lv_aload_n hx hb dX5_pack_52 rfl (lv_at hl 0 rfl) ?_
        refine va_get (D := (dC, dI)) (ci := 4) (v := .int i_this_fields) (C := RX5) (T := TX5) (N := 23) hx hb hts hn_X5_pack_X5 hown hK hP 0 rfl rfl 6 (by decide) (hts _ fl_X5_pack_59) (fun _ h9 => h9) rfl dX5_pack_53 ?_
        refine lv_icmp_ge (tgt := 119) hx hb dX5_pack_56 (by decide) (fun c56 => ?_) (fun c56 => ?_)
        · replace h := im_t c56 h
          rw [eQ]
          exact W.vret hx hb hr (fun t ht hW => ⟨⟨(f1, f6), rfl, Option.some.inj h, by rw [ht]; exact hP, va_K.moved hW.alike hK, hD⟩, hS.F ht⟩) hS.2.2 dX5_pack_119
        · replace h := im_f c56 h
          refine lv_aload_n hx hb dX5_pack_59 rfl (lv_at hl 0 rfl) ?_
          refine va_get (D := (dC, dI)) (ci := 4) (v := .ref a_this_bits) (C := RX5) (T := TX5) (N := 23) hx hb hts hn_X5_pack_X5 hown hK hP 0 rfl rfl 3 (by decide) (hts _ fl_X5_pack_7) (fun _ h9 => h9) rfl dX5_pack_60 ?_
          refine lv_iload_n hx hb dX5_pack_63 rfl (lv_at hl 2 rfl) ?_
          obtain ⟨q64, h⟩ := im_ld_u h
          refine va_iald hx hb hK hP 1 0 rfl rfl q64 dX5_pack_64 ?_
          refine lv_topi (fun v8 ev8 => ?_)
          replace h := h v8 ev8
          refine lv_iconst (v := (1 : Int32)) hx hb dX5_pack_65 (by decide) ?_
          refine lv_isub hx hb dX5_pack_66 ?_
          refine lv_topi (fun v9 ev9 => ?_)
          replace h := im_lt_u h v9 ev9
          refine lv_istore_n (lv' := [(3, .int v9), (0, .ref a_this), (1, .int v4), (2, .int v5)]) hx hb dX5_pack_67 rfl hl (by decide) rfl (fun ls hl => ?_)
          refine im_j2_u (P := fun v10 f11 => ∀ (H : Heap) (locs : List Loc) (ls : Array Slot), va_P (dC, dI) vwCl [(a_this, .inr (4, [.int i_this_thrown, .int i_this_kind, .int i_this_form, .ref a_this_bits, .ref a_this_values, .ref a_this_has, .int i_this_fields, .int i_this_checks, .int i_this_symbols, .ref a_this_row, .int i_this_size, .ref a_this_seen, .int i_this_many, .ref a_this_told, .int i_this_right, .int i_this_mended, .int i_this_mask, .int i_this_turned, .ref a_this_word, .ref a_this_gone, .ref a_this_lines, .ref a_this_places, .ref a_this_square])), (a_this_bits, .inl (cI, n_this_bits, .inl f_this_bits)), (a_this_gone, .inl (cZ, n_this_gone, .inl f1)), (a_this_values, .inl (cJ, n_this_values, .inr (.inl f_this_values))), (a_this_word, .inl (cI, n_this_word, .inl f11))] H → va_D A [(a_this, .inr (4, [.int i_this_thrown, .int i_this_kind, .int i_this_form, .ref a_this_bits, .ref a_this_values, .ref a_this_has, .int i_this_fields, .int i_this_checks, .int i_this_symbols, .ref a_this_row, .int i_this_size, .ref a_this_seen, .int i_this_many, .ref a_this_told, .int i_this_right, .int i_this_mended, .int i_this_mask, .int i_this_turned, .ref a_this_word, .ref a_this_gone, .ref a_this_lines, .ref a_this_places, .ref a_this_square])), (a_this_bits, .inl (cI, n_this_bits, .inl f_this_bits)), (a_this_gone, .inl (cZ, n_this_gone, .inl f1)), (a_this_values, .inl (cJ, n_this_values, .inr (.inl f_this_values))), (a_this_word, .inl (cI, n_this_word, .inl f11))] → va_S A s.heap H locs → lv_has ls 4 [(0, .ref a_this), (1, .int v10), (2, .int v5)] → W p l e (headSpec wsX5_pack rm_X5_pack).room s m args below meth c H locs 0 0 Q (F0 m 113 ls [])) h (fun v10 f11 h H locs ls hP hD hS hl => ?_) (fun K12 J12 h => ?_)
          · obtain ⟨v13, ev13⟩ : ∃ y : Int32, y = (v5 + (1 : Int32)) := ⟨_, rfl⟩
            replace h := im_lt_u h v13 ev13
            refine lv_iinc (v := v13) (lv' := [(2, .int v13), (0, .ref a_this), (1, .int v10)]) hx hb dX5_pack_113 hl (k := 2) rfl (by rw [ev13]; rfl) (by decide) rfl (fun ls hl => ?_)
            refine lv_goto (tgt := 51) hx hb dX5_pack_116 (by decide) ?_
            exact ih v10 v13 f11 h _ _ _ hP hD hS (lv_sub hl [1, 2, 0] rfl)
          · have Lp17 : ∀ (n : Nat) (v14 : Int32) (v15 : Int32) (f16 : Nat → Int32), im_X5_pack_L68 K12 n_this_word n_this_values f_this_values v5 n v14 v15 f16 = some r → ∀ (H : Heap) (locs : List Loc) (ls : Array Slot), va_P (dC, dI) vwCl [(a_this, .inr (4, [.int i_this_thrown, .int i_this_kind, .int i_this_form, .ref a_this_bits, .ref a_this_values, .ref a_this_has, .int i_this_fields, .int i_this_checks, .int i_this_symbols, .ref a_this_row, .int i_this_size, .ref a_this_seen, .int i_this_many, .ref a_this_told, .int i_this_right, .int i_this_mended, .int i_this_mask, .int i_this_turned, .ref a_this_word, .ref a_this_gone, .ref a_this_lines, .ref a_this_places, .ref a_this_square])), (a_this_bits, .inl (cI, n_this_bits, .inl f_this_bits)), (a_this_gone, .inl (cZ, n_this_gone, .inl f1)), (a_this_values, .inl (cJ, n_this_values, .inr (.inl f_this_values))), (a_this_word, .inl (cI, n_this_word, .inl f16))] H → va_D A [(a_this, .inr (4, [.int i_this_thrown, .int i_this_kind, .int i_this_form, .ref a_this_bits, .ref a_this_values, .ref a_this_has, .int i_this_fields, .int i_this_checks, .int i_this_symbols, .ref a_this_row, .int i_this_size, .ref a_this_seen, .int i_this_many, .ref a_this_told, .int i_this_right, .int i_this_mended, .int i_this_mask, .int i_this_turned, .ref a_this_word, .ref a_this_gone, .ref a_this_lines, .ref a_this_places, .ref a_this_square])), (a_this_bits, .inl (cI, n_this_bits, .inl f_this_bits)), (a_this_gone, .inl (cZ, n_this_gone, .inl f1)), (a_this_values, .inl (cJ, n_this_values, .inr (.inl f_this_values))), (a_this_word, .inl (cI, n_this_word, .inl f16))] → va_S A s.heap H locs → lv_has ls 4 [(0, .ref a_this), (1, .int v14), (2, .int v5), (3, .int v15)] → W p l e (headSpec wsX5_pack rm_X5_pack).room s m args below meth c H locs 0 0 Q (F0 m 68 ls []) := by
              intro n
              induction n with
              | zero => intro v14 v15 f16 h; rw [im_X5_pack_L68] at h; cases h
              | succ n ih =>
                intro v14 v15 f16 h H locs ls hP hD hS hl
                rw [im_X5_pack_L68] at h
                refine lv_iload_n hx hb dX5_pack_68 rfl (lv_at hl 3 rfl) ?_
                refine lv_if_lt (tgt := 113) hx hb dX5_pack_69 (by decide) (fun c69 => ?_) (fun c69 => ?_)
                · replace h := im_t c69 h
                  exact J12 v14 f16 h _ _ _ hP hD hS (lv_sub hl [0, 1, 2] rfl)
                · replace h := im_f c69 h
                  refine lv_aload_n hx hb dX5_pack_72 rfl (lv_at hl 0 rfl) ?_
                  refine va_get (D := (dC, dI)) (ci := 4) (v := .ref a_this_word) (C := RX5) (T := TX5) (N := 23) hx hb hts hn_X5_pack_X5 hown hK hP 0 rfl rfl 18 (by decide) (hts _ fl_X5_pack_37) (fun _ h9 => h9) rfl dX5_pack_73 ?_
                  refine lv_iload_n hx hb dX5_pack_76 rfl (lv_at hl 1 rfl) ?_
                  refine lv_bipush (v := (6 : Int32)) hx hb dX5_pack_77 (by decide) ?_
                  refine lv_idiv hx hb dX5_pack_79 (by decide) ?_
                  refine lv_topi (fun v18 ev18 => ?_)
                  replace h := im_lt_u h v18 ev18
                  refine lv_aload_n hx hb dX5_pack_80 rfl (lv_at hl 0 rfl) ?_
                  refine va_get (D := (dC, dI)) (ci := 4) (v := .ref a_this_word) (C := RX5) (T := TX5) (N := 23) hx hb hts hn_X5_pack_X5 hown hK hP 0 rfl rfl 18 (by decide) (hts _ fl_X5_pack_37) (fun _ h9 => h9) rfl dX5_pack_81 ?_
                  refine lv_iload_n hx hb dX5_pack_84 rfl (lv_at hl 1 rfl) ?_
                  refine lv_bipush (v := (6 : Int32)) hx hb dX5_pack_85 (by decide) ?_
                  refine lv_idiv hx hb dX5_pack_87 (by decide) ?_
                  refine lv_topi (fun v19 ev19 => ?_)
                  replace h := im_lt_u h v19 ev19
                  obtain ⟨q88, h⟩ := im_ld_u h
                  refine va_iald hx hb hK hP 4 0 rfl rfl q88 dX5_pack_88 ?_
                  refine lv_topi (fun v20 ev20 => ?_)
                  replace h := h v20 ev20
                  refine lv_iconst (v := (2 : Int32)) hx hb dX5_pack_89 (by decide) ?_
                  refine lv_imul hx hb dX5_pack_90 ?_
                  refine lv_topi (fun v21 ev21 => ?_)
                  replace h := im_lt_u h v21 ev21
                  refine lv_aload_n hx hb dX5_pack_91 rfl (lv_at hl 0 rfl) ?_
                  refine va_get (D := (dC, dI)) (ci := 4) (v := .ref a_this_values) (C := RX5) (T := TX5) (N := 23) hx hb hts hn_X5_pack_X5 hown hK hP 0 rfl rfl 4 (by decide) (hts _ fl_X5_pack_13) (fun _ h9 => h9) rfl dX5_pack_92 ?_
                  refine lv_iload_n hx hb dX5_pack_95 rfl (lv_at hl 2 rfl) ?_
                  obtain ⟨q96, h⟩ := im_ld_u h
                  refine va_lald hx hb hK hP 3 1 rfl rfl q96 dX5_pack_96 ?_
                  refine lv_topl (fun v22 ev22 => ?_)
                  replace h := h v22 ev22
                  refine lv_iload_n hx hb dX5_pack_97 rfl (lv_at hl 3 rfl) ?_
                  refine lv_lshr hx hb dX5_pack_98 rfl ?_
                  refine lv_topl (fun v23 ev23 => ?_)
                  replace h := im_lt_u h v23 ev23
                  refine lv_lconst (v := (1 : Int64)) hx hb dX5_pack_99 (by decide) ?_
                  refine lv_land hx hb dX5_pack_100 ?_
                  refine lv_topl (fun v24 ev24 => ?_)
                  replace h := im_lt_u h v24 ev24
                  refine lv_l2i hx hb dX5_pack_101 rfl ?_
                  refine lv_topi (fun v25 ev25 => ?_)
                  replace h := im_lt_u h v25 ev25
                  refine lv_iadd hx hb dX5_pack_102 ?_
                  refine lv_topi (fun v26 ev26 => ?_)
                  replace h := im_lt_u h v26 ev26
                  obtain ⟨q103, h⟩ := im_st_u h
                  refine va_iast hx hb hK hP hD hS 4 0 rfl rfl q103 dX5_pack_103 (fun H locs hP hD hS => ?_)
                  obtain ⟨f27, ef27⟩ : ∃ g : Nat → Int32, g = upd f16 v18.toNatClampNeg v26 := ⟨_, rfl⟩
                  replace h := h f27 ef27
                  rw [← ef27] at hP hD
                  have hP : va_P (dC, dI) vwCl [(a_this, .inr (4, [.int i_this_thrown, .int i_this_kind, .int i_this_form, .ref a_this_bits, .ref a_this_values, .ref a_this_has, .int i_this_fields, .int i_this_checks, .int i_this_symbols, .ref a_this_row, .int i_this_size, .ref a_this_seen, .int i_this_many, .ref a_this_told, .int i_this_right, .int i_this_mended, .int i_this_mask, .int i_this_turned, .ref a_this_word, .ref a_this_gone, .ref a_this_lines, .ref a_this_places, .ref a_this_square])), (a_this_bits, .inl (cI, n_this_bits, .inl f_this_bits)), (a_this_gone, .inl (cZ, n_this_gone, .inl f1)), (a_this_values, .inl (cJ, n_this_values, .inr (.inl f_this_values))), (a_this_word, .inl (cI, n_this_word, .inl f27))] H := hP
                  have hD : va_D A [(a_this, .inr (4, [.int i_this_thrown, .int i_this_kind, .int i_this_form, .ref a_this_bits, .ref a_this_values, .ref a_this_has, .int i_this_fields, .int i_this_checks, .int i_this_symbols, .ref a_this_row, .int i_this_size, .ref a_this_seen, .int i_this_many, .ref a_this_told, .int i_this_right, .int i_this_mended, .int i_this_mask, .int i_this_turned, .ref a_this_word, .ref a_this_gone, .ref a_this_lines, .ref a_this_places, .ref a_this_square])), (a_this_bits, .inl (cI, n_this_bits, .inl f_this_bits)), (a_this_gone, .inl (cZ, n_this_gone, .inl f1)), (a_this_values, .inl (cJ, n_this_values, .inr (.inl f_this_values))), (a_this_word, .inl (cI, n_this_word, .inl f27))] := hD
                  obtain ⟨v28, ev28⟩ : ∃ y : Int32, y = (v14 + (1 : Int32)) := ⟨_, rfl⟩
                  replace h := im_lt_u h v28 ev28
                  refine lv_iinc (v := v28) (lv' := [(1, .int v28), (0, .ref a_this), (2, .int v5), (3, .int v15)]) hx hb dX5_pack_104 hl (k := 1) rfl (by rw [ev28]; rfl) (by decide) rfl (fun ls hl => ?_)
                  obtain ⟨v29, ev29⟩ : ∃ y : Int32, y = (v15 + (-1 : Int32)) := ⟨_, rfl⟩
                  replace h := im_lt_u h v29 ev29
                  refine lv_iinc (v := v29) (lv' := [(3, .int v29), (1, .int v28), (0, .ref a_this), (2, .int v5)]) hx hb dX5_pack_107 hl (k := 3) rfl (by rw [ev29]; rfl) (by decide) rfl (fun ls hl => ?_)
                  refine lv_goto (tgt := 68) hx hb dX5_pack_110 (by decide) ?_
                  exact ih v28 v29 f27 h _ _ _ hP hD hS (lv_sub hl [2, 1, 3, 0] rfl)
            exact Lp17 5000 v4 v9 f6 h _ _ _ hP hD hS (lv_sub hl [1, 2, 3, 0] rfl)
    exact Lp7 5000 (0 : Int32) (0 : Int32) f2 h _ _ _ hP hD hS (lv_sub hl [2, 1, 0] rfl)
  · have Lp33 : ∀ (n : Nat) (v30 : Int32) (f31 : Nat → Int32) (f32 : Nat → Int32), im_X5_pack_L2 i_this_symbols K3 n_this_gone n_this_word i_this_checks n v30 f31 f32 = some r → ∀ (H : Heap) (locs : List Loc) (ls : Array Slot), va_P (dC, dI) vwCl [(a_this, .inr (4, [.int i_this_thrown, .int i_this_kind, .int i_this_form, .ref a_this_bits, .ref a_this_values, .ref a_this_has, .int i_this_fields, .int i_this_checks, .int i_this_symbols, .ref a_this_row, .int i_this_size, .ref a_this_seen, .int i_this_many, .ref a_this_told, .int i_this_right, .int i_this_mended, .int i_this_mask, .int i_this_turned, .ref a_this_word, .ref a_this_gone, .ref a_this_lines, .ref a_this_places, .ref a_this_square])), (a_this_bits, .inl (cI, n_this_bits, .inl f_this_bits)), (a_this_gone, .inl (cZ, n_this_gone, .inl f31)), (a_this_values, .inl (cJ, n_this_values, .inr (.inl f_this_values))), (a_this_word, .inl (cI, n_this_word, .inl f32))] H → va_D A [(a_this, .inr (4, [.int i_this_thrown, .int i_this_kind, .int i_this_form, .ref a_this_bits, .ref a_this_values, .ref a_this_has, .int i_this_fields, .int i_this_checks, .int i_this_symbols, .ref a_this_row, .int i_this_size, .ref a_this_seen, .int i_this_many, .ref a_this_told, .int i_this_right, .int i_this_mended, .int i_this_mask, .int i_this_turned, .ref a_this_word, .ref a_this_gone, .ref a_this_lines, .ref a_this_places, .ref a_this_square])), (a_this_bits, .inl (cI, n_this_bits, .inl f_this_bits)), (a_this_gone, .inl (cZ, n_this_gone, .inl f31)), (a_this_values, .inl (cJ, n_this_values, .inr (.inl f_this_values))), (a_this_word, .inl (cI, n_this_word, .inl f32))] → va_S A s.heap H locs → lv_has ls 4 [(0, .ref a_this), (1, .int v30)] → W p l e (headSpec wsX5_pack rm_X5_pack).room s m args below meth c H locs 0 0 Q (F0 m 2 ls []) := by
      intro n
      induction n with
      | zero => intro v30 f31 f32 h; rw [im_X5_pack_L2] at h; cases h
      | succ n ih =>
        intro v30 f31 f32 h H locs ls hP hD hS hl
        rw [im_X5_pack_L2] at h
        refine lv_iload_n hx hb dX5_pack_2 rfl (lv_at hl 1 rfl) ?_
        refine lv_aload_n hx hb dX5_pack_3 rfl (lv_at hl 0 rfl) ?_
        refine va_get (D := (dC, dI)) (ci := 4) (v := .int i_this_symbols) (C := RX5) (T := TX5) (N := 23) hx hb hts hn_X5_pack_X5 hown hK hP 0 rfl rfl 8 (by decide) (hts _ fl_X5_pack_65) (fun _ h9 => h9) rfl dX5_pack_4 ?_
        refine lv_icmp_ge (tgt := 47) hx hb dX5_pack_7 (by decide) (fun c7 => ?_) (fun c7 => ?_)
        · replace h := im_t c7 h
          exact J3 f31 f32 h _ _ _ hP hD hS (lv_sub hl [0] rfl)
        · replace h := im_f c7 h
          refine im_j3_u (P := fun v34 v35 f36 => ∀ (H : Heap) (locs : List Loc) (ls : Array Slot), va_P (dC, dI) vwCl [(a_this, .inr (4, [.int i_this_thrown, .int i_this_kind, .int i_this_form, .ref a_this_bits, .ref a_this_values, .ref a_this_has, .int i_this_fields, .int i_this_checks, .int i_this_symbols, .ref a_this_row, .int i_this_size, .ref a_this_seen, .int i_this_many, .ref a_this_told, .int i_this_right, .int i_this_mended, .int i_this_mask, .int i_this_turned, .ref a_this_word, .ref a_this_gone, .ref a_this_lines, .ref a_this_places, .ref a_this_square])), (a_this_bits, .inl (cI, n_this_bits, .inl f_this_bits)), (a_this_gone, .inl (cZ, n_this_gone, .inl f31)), (a_this_values, .inl (cJ, n_this_values, .inr (.inl f_this_values))), (a_this_word, .inl (cI, n_this_word, .inl f36))] H → va_D A [(a_this, .inr (4, [.int i_this_thrown, .int i_this_kind, .int i_this_form, .ref a_this_bits, .ref a_this_values, .ref a_this_has, .int i_this_fields, .int i_this_checks, .int i_this_symbols, .ref a_this_row, .int i_this_size, .ref a_this_seen, .int i_this_many, .ref a_this_told, .int i_this_right, .int i_this_mended, .int i_this_mask, .int i_this_turned, .ref a_this_word, .ref a_this_gone, .ref a_this_lines, .ref a_this_places, .ref a_this_square])), (a_this_bits, .inl (cI, n_this_bits, .inl f_this_bits)), (a_this_gone, .inl (cZ, n_this_gone, .inl f31)), (a_this_values, .inl (cJ, n_this_values, .inr (.inl f_this_values))), (a_this_word, .inl (cI, n_this_word, .inl f36))] → va_S A s.heap H locs → lv_has ls 4 [(0, .ref a_this), (1, .int v30)] → W p l e (headSpec wsX5_pack rm_X5_pack).room s m args below meth c H locs 0 0 Q (F0 m 40 ls [.int v34, .int v35, .ref a_this_gone])) h (fun v34 v35 f36 h H locs ls hP hD hS hl => ?_) (fun K37 J37 h => ?_)
          · obtain ⟨z40, h⟩ := im_as_u h
            obtain ⟨q40, h⟩ := im_st_u h
            refine va_zast hx hb hK hP hD hS 2 2 rfl rfl q40 dX5_pack_40 (fun H locs hP hD hS => ?_)
            obtain ⟨f38, ef38⟩ : ∃ g : Nat → Int32, g = upd f31 v35.toNatClampNeg v34 := ⟨_, rfl⟩
            replace h := h f38 ef38
            rw [im_nb z40, ← ef38] at hP hD
            have hP : va_P (dC, dI) vwCl [(a_this, .inr (4, [.int i_this_thrown, .int i_this_kind, .int i_this_form, .ref a_this_bits, .ref a_this_values, .ref a_this_has, .int i_this_fields, .int i_this_checks, .int i_this_symbols, .ref a_this_row, .int i_this_size, .ref a_this_seen, .int i_this_many, .ref a_this_told, .int i_this_right, .int i_this_mended, .int i_this_mask, .int i_this_turned, .ref a_this_word, .ref a_this_gone, .ref a_this_lines, .ref a_this_places, .ref a_this_square])), (a_this_bits, .inl (cI, n_this_bits, .inl f_this_bits)), (a_this_gone, .inl (cZ, n_this_gone, .inl f38)), (a_this_values, .inl (cJ, n_this_values, .inr (.inl f_this_values))), (a_this_word, .inl (cI, n_this_word, .inl f36))] H := hP
            have hD : va_D A [(a_this, .inr (4, [.int i_this_thrown, .int i_this_kind, .int i_this_form, .ref a_this_bits, .ref a_this_values, .ref a_this_has, .int i_this_fields, .int i_this_checks, .int i_this_symbols, .ref a_this_row, .int i_this_size, .ref a_this_seen, .int i_this_many, .ref a_this_told, .int i_this_right, .int i_this_mended, .int i_this_mask, .int i_this_turned, .ref a_this_word, .ref a_this_gone, .ref a_this_lines, .ref a_this_places, .ref a_this_square])), (a_this_bits, .inl (cI, n_this_bits, .inl f_this_bits)), (a_this_gone, .inl (cZ, n_this_gone, .inl f38)), (a_this_values, .inl (cJ, n_this_values, .inr (.inl f_this_values))), (a_this_word, .inl (cI, n_this_word, .inl f36))] := hD
            obtain ⟨v39, ev39⟩ : ∃ y : Int32, y = (v30 + (1 : Int32)) := ⟨_, rfl⟩
            replace h := im_lt_u h v39 ev39
            refine lv_iinc (v := v39) (lv' := [(1, .int v39), (0, .ref a_this)]) hx hb dX5_pack_41 hl (k := 1) rfl (by rw [ev39]; rfl) (by decide) rfl (fun ls hl => ?_)
            refine lv_goto (tgt := 2) hx hb dX5_pack_44 (by decide) ?_
            exact ih v39 f38 f36 h _ _ _ hP hD hS (lv_sub hl [1, 0] rfl)
          · refine lv_aload_n hx hb dX5_pack_10 rfl (lv_at hl 0 rfl) ?_
            refine va_get (D := (dC, dI)) (ci := 4) (v := .ref a_this_word) (C := RX5) (T := TX5) (N := 23) hx hb hts hn_X5_pack_X5 hown hK hP 0 rfl rfl 18 (by decide) (hts _ fl_X5_pack_37) (fun _ h9 => h9) rfl dX5_pack_11 ?_
            refine lv_iload_n hx hb dX5_pack_14 rfl (lv_at hl 1 rfl) ?_
            refine lv_iconst (v := (0 : Int32)) hx hb dX5_pack_15 (by decide) ?_
            obtain ⟨q16, h⟩ := im_st_u h
            refine va_iast hx hb hK hP hD hS 4 0 rfl rfl q16 dX5_pack_16 (fun H locs hP hD hS => ?_)
            obtain ⟨f40, ef40⟩ : ∃ g : Nat → Int32, g = upd f32 v30.toNatClampNeg (0 : Int32) := ⟨_, rfl⟩
            replace h := h f40 ef40
            rw [← ef40] at hP hD
            have hP : va_P (dC, dI) vwCl [(a_this, .inr (4, [.int i_this_thrown, .int i_this_kind, .int i_this_form, .ref a_this_bits, .ref a_this_values, .ref a_this_has, .int i_this_fields, .int i_this_checks, .int i_this_symbols, .ref a_this_row, .int i_this_size, .ref a_this_seen, .int i_this_many, .ref a_this_told, .int i_this_right, .int i_this_mended, .int i_this_mask, .int i_this_turned, .ref a_this_word, .ref a_this_gone, .ref a_this_lines, .ref a_this_places, .ref a_this_square])), (a_this_bits, .inl (cI, n_this_bits, .inl f_this_bits)), (a_this_gone, .inl (cZ, n_this_gone, .inl f31)), (a_this_values, .inl (cJ, n_this_values, .inr (.inl f_this_values))), (a_this_word, .inl (cI, n_this_word, .inl f40))] H := hP
            have hD : va_D A [(a_this, .inr (4, [.int i_this_thrown, .int i_this_kind, .int i_this_form, .ref a_this_bits, .ref a_this_values, .ref a_this_has, .int i_this_fields, .int i_this_checks, .int i_this_symbols, .ref a_this_row, .int i_this_size, .ref a_this_seen, .int i_this_many, .ref a_this_told, .int i_this_right, .int i_this_mended, .int i_this_mask, .int i_this_turned, .ref a_this_word, .ref a_this_gone, .ref a_this_lines, .ref a_this_places, .ref a_this_square])), (a_this_bits, .inl (cI, n_this_bits, .inl f_this_bits)), (a_this_gone, .inl (cZ, n_this_gone, .inl f31)), (a_this_values, .inl (cJ, n_this_values, .inr (.inl f_this_values))), (a_this_word, .inl (cI, n_this_word, .inl f40))] := hD
            refine lv_aload_n hx hb dX5_pack_17 rfl (lv_at hl 0 rfl) ?_
            refine va_get (D := (dC, dI)) (ci := 4) (v := .ref a_this_gone) (C := RX5) (T := TX5) (N := 23) hx hb hts hn_X5_pack_X5 hown hK hP 0 rfl rfl 19 (by decide) (hts _ fl_X5_pack_40) (fun _ h9 => h9) rfl dX5_pack_18 ?_
            refine lv_iload_n hx hb dX5_pack_21 rfl (lv_at hl 1 rfl) ?_
            refine lv_iload_n hx hb dX5_pack_22 rfl (lv_at hl 1 rfl) ?_
            refine lv_aload_n hx hb dX5_pack_23 rfl (lv_at hl 0 rfl) ?_
            refine va_get (D := (dC, dI)) (ci := 4) (v := .int i_this_symbols) (C := RX5) (T := TX5) (N := 23) hx hb hts hn_X5_pack_X5 hown hK hP 0 rfl rfl 8 (by decide) (hts _ fl_X5_pack_65) (fun _ h9 => h9) rfl dX5_pack_24 ?_
            refine lv_aload_n hx hb dX5_pack_27 rfl (lv_at hl 0 rfl) ?_
            refine va_get (D := (dC, dI)) (ci := 4) (v := .int i_this_checks) (C := RX5) (T := TX5) (N := 23) hx hb hts hn_X5_pack_X5 hown hK hP 0 rfl rfl 7 (by decide) (hts _ fl_X5_pack_62) (fun _ h9 => h9) rfl dX5_pack_28 ?_
            refine lv_isub hx hb dX5_pack_31 ?_
            refine lv_topi (fun v41 ev41 => ?_)
            replace h := im_lt_u h v41 ev41
            refine lv_icmp_lt (tgt := 39) hx hb dX5_pack_32 (by decide) (fun c32 => ?_) (fun c32 => ?_)
            · replace h := im_t c32 h
              refine lv_iconst (v := (0 : Int32)) hx hb dX5_pack_39 (by decide) ?_
              exact J37 (0 : Int32) v30 f40 h _ _ _ hP hD hS (lv_sub hl [0, 1] rfl)
            · replace h := im_f c32 h
              refine lv_iconst (v := (1 : Int32)) hx hb dX5_pack_35 (by decide) ?_
              refine lv_goto (tgt := 40) hx hb dX5_pack_36 (by decide) ?_
              exact J37 (1 : Int32) v30 f40 h _ _ _ hP hD hS (lv_sub hl [0, 1] rfl)
    exact Lp33 5000 (0 : Int32) f_this_gone f_this_word h _ _ _ hP hD hS (lv_sub hl [1, 0] rfl)
def im_X5_sumAt_L10 (i_this_symbols : Int32) (v1 : Int32) (n_this_word : Nat) (f_this_word : Nat → Int32) : Nat → Int32 → Int32 → Option (Int32)
  | 0, _, _ => none
  | n + 1, v2, v3 => if i_this_symbols ≤ v3 then (some v2) else im_b1 (im_X5_times v2 v1) (fun v5 => im_ld n_this_word f_this_word v3 (fun v6 => im_lt (v5 ^^^ v6) (fun v7 => im_lt (v3 + (1 : Int32)) (fun v8 => (im_X5_sumAt_L10 i_this_symbols v1 n_this_word f_this_word n v7 v8)))))
def im_X5_sumAt (x0 : Int32) (i_this_symbols : Int32) (n_this_word : Nat) (f_this_word : Nat → Int32) : Option (Int32) := im_b1 (im_X5_power x0) (fun v1 => (im_X5_sumAt_L10 i_this_symbols v1 n_this_word f_this_word 5000 (0 : Int32) (0 : Int32)))
abbrev rm_X5_sumAt : Room := { frames := 2, cells := 0, slots := 0, locals := 45 }
theorem hn_X5_sumAt_X5 : ∀ w ∈ wsX50, w ∈ wsX5_sumAt := by decide +kernel
theorem fl_X5_sumAt_65 : Cond.fieldLink RX5 65 "BarCodesModel" "symbols" "I" ∈ wsX5_sumAt := by decide +kernel
theorem fl_X5_sumAt_37 : Cond.fieldLink RX5 37 "BarCodesModel" "word" "[I" ∈ wsX5_sumAt := by decide +kernel
set_option maxHeartbeats 4000000 in
set_option maxRecDepth 100000 in
theorem c_X5_sumAt (l : Launch) (dC : Nat → ClassId) (dI : Nat → Nat → Nat) (cI cJ cZ : ClassId) (a_this a_this_bits a_this_values a_this_has a_this_row a_this_seen a_this_told a_this_word a_this_gone a_this_lines a_this_places a_this_square : Nat) (i_this_thrown i_this_kind i_this_form i_this_fields i_this_checks i_this_symbols i_this_size i_this_many i_this_right i_this_mended i_this_mask i_this_turned : Int32) (n_this_word : Nat) (f_this_word : Nat → Int32) (x0 : Int32) {r : Int32} (h : im_X5_sumAt x0 i_this_symbols n_this_word f_this_word = some r) : Met l yX5_sumAt wsX5_sumAt rm_X5_sumAt (va_Pc [.ref a_this, .int x0] (fun U => va_P (dC, dI) vwCl [(a_this, .inr (4, [.int i_this_thrown, .int i_this_kind, .int i_this_form, .ref a_this_bits, .ref a_this_values, .ref a_this_has, .int i_this_fields, .int i_this_checks, .int i_this_symbols, .ref a_this_row, .int i_this_size, .ref a_this_seen, .int i_this_many, .ref a_this_told, .int i_this_right, .int i_this_mended, .int i_this_mask, .int i_this_turned, .ref a_this_word, .ref a_this_gone, .ref a_this_lines, .ref a_this_places, .ref a_this_square])), (a_this_word, .inl (cI, n_this_word, .inl f_this_word))] U.heap ∧ va_K (dC, dI) vwCl [(cI, .int), (cJ, .long), (cZ, .boolean)] U)) (vp_Si (fun r9 => r9 = r)) 0 0 (fun _ => False) := by
  refine Met.ofW (cc := cX5_sumAt) (maxL := 5) (ret := (some .int)) (by decide) rfl ?_
  intro p e s m args below meth c s₁ B hml hv
  obtain ⟨eargs, hP, hK⟩ := hv
  have hx := B.exec
  have hb := B.bytes
  have hr := B.returns
  have hts := atoms_spec (ws := wsX5_sumAt) B.pre
  have hown : s.vm.findClass RX5 = some m.cls := findClass_of_methodNamed B.named
  have hlocks := B.notSynchronized
  refine im_Q (fun Q eQ => ?_)
  have hl := lv_entry [.ref a_this, .int x0] (n := 5) (Nat.le_of_ble_eq_true rfl)
  rw [show entryFrame m args 5 = entryFrame m ([.ref a_this, .int x0] : List Value).toArray 5 by rw [eargs], lg_entry_eq]
  generalize (lg_sl ([.ref a_this, .int x0]) ++ List.replicate (5 - (lg_sl ([.ref a_this, .int x0])).length) Slot.unset).toArray = ls at hl ⊢
  have hl : lv_has ls 5 [(0, .ref a_this), (1, .int x0)] := hl
  rw [im_X5_sumAt] at h
  refine lv_iload_n hx hb dX5_sumAt_0 rfl (lv_at hl 1 rfl) ?_
  obtain ⟨v1, y1, h⟩ := im_b1_u h
  refine vp_callSi (W.runS (As := [.int x0]) (rest := []) ⟨hx, hb, hml, hown, hts⟩ (c_X5_power l x0 y1) (va_cwS 1 hts gX5_sumAt_X5_power rfl rfl rfl (by decide +kernel) ⟨Nat.le_of_ble_eq_true rfl, Nat.le_of_ble_eq_true rfl⟩) ⟨fun _ _ _ _ q => q, fun U hU hW => ⟨rfl, trivial⟩⟩ rfl rfl hl.1 rfl (lv_room (Nat.le_of_ble_eq_true rfl)) dX5_sumAt_1 ⟨Nat.zero_le _, Nat.zero_le _⟩) (fun w1 ew1 => ?_)
  have ew1 := ew1.symm
  subst ew1
  refine lv_istore_n (lv' := [(2, .int v1), (0, .ref a_this), (1, .int x0)]) hx hb dX5_sumAt_4 rfl hl (by decide) rfl (fun ls hl => ?_)
  refine lv_iconst (v := (0 : Int32)) hx hb dX5_sumAt_5 (by decide) ?_
  refine lv_istore_n (lv' := [(3, .int (0 : Int32)), (2, .int v1), (0, .ref a_this), (1, .int x0)]) hx hb dX5_sumAt_6 rfl hl (by decide) rfl (fun ls hl => ?_)
  refine lv_iconst (v := (0 : Int32)) hx hb dX5_sumAt_7 (by decide) ?_
  refine lv_istore (lv' := [(4, .int (0 : Int32)), (3, .int (0 : Int32)), (2, .int v1), (0, .ref a_this), (1, .int x0)]) hx hb dX5_sumAt_8 hl (by decide) rfl (fun ls hl => ?_)
  have Lp4 : ∀ (n : Nat) (v2 : Int32) (v3 : Int32), im_X5_sumAt_L10 i_this_symbols v1 n_this_word f_this_word n v2 v3 = some r → ∀ (ls : Array Slot), lv_has ls 5 [(0, .ref a_this), (2, .int v1), (3, .int v2), (4, .int v3)] → W p l e (headSpec wsX5_sumAt rm_X5_sumAt).room s m args below meth c s.heap [] 0 0 Q (F0 m 10 ls []) := by
    intro n
    induction n with
    | zero => intro v2 v3 h; rw [im_X5_sumAt_L10] at h; cases h
    | succ n ih =>
      intro v2 v3 h ls hl
      rw [im_X5_sumAt_L10] at h
      refine lv_iload hx hb dX5_sumAt_10 (lv_at hl 3 rfl) ?_
      refine lv_aload_n hx hb dX5_sumAt_12 rfl (lv_at hl 0 rfl) ?_
      refine va_get (D := (dC, dI)) (ci := 4) (v := .int i_this_symbols) (C := RX5) (T := TX5) (N := 23) hx hb hts hn_X5_sumAt_X5 hown hK hP 0 rfl rfl 8 (by decide) (hts _ fl_X5_sumAt_65) (fun _ h9 => h9) rfl dX5_sumAt_13 ?_
      refine lv_icmp_ge (tgt := 39) hx hb dX5_sumAt_16 (by decide) (fun c16 => ?_) (fun c16 => ?_)
      · replace h := im_t c16 h
        refine lv_iload_n hx hb dX5_sumAt_39 rfl (lv_at hl 2 rfl) ?_
        rw [eQ]
        exact W.iret (v := v2) hx hb hr (fun t ht hW => ⟨_, rfl, Option.some.inj h, ht⟩) (fun _ h9 => by cases h9) dX5_sumAt_40
      · replace h := im_f c16 h
        refine lv_iload_n hx hb dX5_sumAt_19 rfl (lv_at hl 2 rfl) ?_
        refine lv_iload_n hx hb dX5_sumAt_20 rfl (lv_at hl 1 rfl) ?_
        obtain ⟨v5, y21, h⟩ := im_b1_u h
        refine vp_callSi (W.runS (As := [.int v2, .int v1]) (rest := []) ⟨hx, hb, hml, hown, hts⟩ (c_X5_times l v2 v1 y21) (va_cwS 2 hts gX5_sumAt_X5_times rfl rfl rfl (by decide +kernel) ⟨Nat.le_of_ble_eq_true rfl, Nat.le_of_ble_eq_true rfl⟩) ⟨fun _ _ _ _ q => q, fun U hU hW => ⟨rfl, trivial⟩⟩ rfl rfl hl.1 rfl (lv_room (Nat.le_of_ble_eq_true rfl)) dX5_sumAt_21 ⟨Nat.zero_le _, Nat.zero_le _⟩) (fun w21 ew21 => ?_)
        have ew21 := ew21.symm
        subst ew21
        refine lv_aload_n hx hb dX5_sumAt_24 rfl (lv_at hl 0 rfl) ?_
        refine va_get (D := (dC, dI)) (ci := 4) (v := .ref a_this_word) (C := RX5) (T := TX5) (N := 23) hx hb hts hn_X5_sumAt_X5 hown hK hP 0 rfl rfl 18 (by decide) (hts _ fl_X5_sumAt_37) (fun _ h9 => h9) rfl dX5_sumAt_25 ?_
        refine lv_iload hx hb dX5_sumAt_28 (lv_at hl 3 rfl) ?_
        obtain ⟨q30, h⟩ := im_ld_u h
        refine va_iald hx hb hK hP 1 0 rfl rfl q30 dX5_sumAt_30 ?_
        refine lv_topi (fun v6 ev6 => ?_)
        replace h := h v6 ev6
        refine lv_ixor hx hb dX5_sumAt_31 ?_
        refine lv_topi (fun v7 ev7 => ?_)
        replace h := im_lt_u h v7 ev7
        refine lv_istore_n (lv' := [(3, .int v7), (0, .ref a_this), (2, .int v1), (4, .int v3)]) hx hb dX5_sumAt_32 rfl hl (by decide) rfl (fun ls hl => ?_)
        obtain ⟨v8, ev8⟩ : ∃ y : Int32, y = (v3 + (1 : Int32)) := ⟨_, rfl⟩
        replace h := im_lt_u h v8 ev8
        refine lv_iinc (v := v8) (lv' := [(4, .int v8), (3, .int v7), (0, .ref a_this), (2, .int v1)]) hx hb dX5_sumAt_33 hl (k := 3) rfl (by rw [ev8]; rfl) (by decide) rfl (fun ls hl => ?_)
        refine lv_goto (tgt := 10) hx hb dX5_sumAt_36 (by decide) ?_
        exact ih v7 v8 h _ (lv_sub hl [2, 3, 1, 0] rfl)
  exact Lp4 5000 (0 : Int32) (0 : Int32) h _ (lv_sub hl [3, 2, 1, 0] rfl)
def im_X5_write_L12 (x0 : Int32) (K5 : (Nat → Int32) → Option ((Nat → Int32))) (v1 : Int32) (i_this_symbols : Int32) (n_this_places : Nat) (f_this_places : Nat → Int32) (n_this_lines : Nat) : Nat → Int32 → (Nat → Int32) → Option ((Nat → Int32))
  | 0, _, _ => none
  | n + 1, v12, f13 => if x0 ≤ v12 then (K5 f13) else im_lt ((9 : Int32) * v1) (fun v15 => im_lt (v15 + v12) (fun v16 => im_lt (i_this_symbols - (1 : Int32)) (fun v17 => im_ld n_this_places f_this_places v12 (fun v18 => im_lt (v17 - v18) (fun v19 => im_lt (v1 + (1 : Int32)) (fun v20 => im_lt (v19 * v20) (fun v21 => im_lt (v21 - v21 / (63 : Int32) * (63 : Int32)) (fun v22 => im_b1 (im_X5_power v22) (fun v23 => im_st n_this_lines f13 v16 v23 (fun f24 => im_lt (v12 + (1 : Int32)) (fun v25 => (im_X5_write_L12 x0 K5 v1 i_this_symbols n_this_places f_this_places n_this_lines n v25 f24))))))))))))
def im_X5_write_L2 (i_this_checks : Int32) (x0 : Int32) (i_this_symbols : Int32) (n_this_word : Nat) (f_this_word : Nat → Int32) (n_this_lines : Nat) (n_this_places : Nat) (f_this_places : Nat → Int32) : Nat → Int32 → (Nat → Int32) → Option ((Nat → Int32))
  | 0, _, _ => none
  | n + 1, v1, f2 => if i_this_checks ≤ v1 then (some f2) else im_j1 (fun (f4 : Nat → Int32) => im_lt ((9 : Int32) * v1) (fun v6 => im_lt (v6 + x0) (fun v7 => im_lt (v1 + (1 : Int32)) (fun v8 => im_b1 (im_X5_sumAt v8 i_this_symbols n_this_word f_this_word) (fun v9 => im_st n_this_lines f4 v7 v9 (fun f10 => im_lt (v1 + (1 : Int32)) (fun v11 => (im_X5_write_L2 i_this_checks x0 i_this_symbols n_this_word f_this_word n_this_lines n_this_places f_this_places n v11 f10)))))))) (fun K5 => (im_X5_write_L12 x0 K5 v1 i_this_symbols n_this_places f_this_places n_this_lines 5000 (0 : Int32) f2))
def im_X5_write (x0 : Int32) (i_this_checks : Int32) (i_this_symbols : Int32) (n_this_lines : Nat) (n_this_places : Nat) (n_this_word : Nat) (f_this_lines : Nat → Int32) (f_this_places : Nat → Int32) (f_this_word : Nat → Int32) : Option ((Nat → Int32)) := (im_X5_write_L2 i_this_checks x0 i_this_symbols n_this_word f_this_word n_this_lines n_this_places f_this_places 5000 (0 : Int32) f_this_lines)
abbrev rm_X5_write : Room := { frames := 3, cells := 0, slots := 0, locals := 69 }
theorem hn_X5_write_X5 : ∀ w ∈ wsX50, w ∈ wsX5_write := by decide +kernel
theorem fl_X5_write_62 : Cond.fieldLink RX5 62 "BarCodesModel" "checks" "I" ∈ wsX5_write := by decide +kernel
theorem fl_X5_write_43 : Cond.fieldLink RX5 43 "BarCodesModel" "lines" "[I" ∈ wsX5_write := by decide +kernel
theorem fl_X5_write_65 : Cond.fieldLink RX5 65 "BarCodesModel" "symbols" "I" ∈ wsX5_write := by decide +kernel
theorem fl_X5_write_46 : Cond.fieldLink RX5 46 "BarCodesModel" "places" "[I" ∈ wsX5_write := by decide +kernel
set_option maxHeartbeats 4000000 in
set_option maxRecDepth 100000 in
theorem c_X5_write (l : Launch) (dC : Nat → ClassId) (dI : Nat → Nat → Nat) (cI cJ cZ : ClassId) (sz : Nat) (a_this a_this_bits a_this_values a_this_has a_this_row a_this_seen a_this_told a_this_word a_this_gone a_this_lines a_this_places a_this_square : Nat) (i_this_thrown i_this_kind i_this_form i_this_fields i_this_checks i_this_symbols i_this_size i_this_many i_this_right i_this_mended i_this_mask i_this_turned : Int32) (n_this_lines n_this_places n_this_word : Nat) (f_this_lines : Nat → Int32) (f_this_places : Nat → Int32) (f_this_word : Nat → Int32) (x0 : Int32) {r : (Nat → Int32)} (h : im_X5_write x0 i_this_checks i_this_symbols n_this_lines n_this_places n_this_word f_this_lines f_this_places f_this_word = some r) : Met l yX5_write wsX5_write rm_X5_write (va_Pc [.ref a_this, .int x0] (fun U => U.heap.size = sz ∧ va_P (dC, dI) vwCl [(a_this, .inr (4, [.int i_this_thrown, .int i_this_kind, .int i_this_form, .ref a_this_bits, .ref a_this_values, .ref a_this_has, .int i_this_fields, .int i_this_checks, .int i_this_symbols, .ref a_this_row, .int i_this_size, .ref a_this_seen, .int i_this_many, .ref a_this_told, .int i_this_right, .int i_this_mended, .int i_this_mask, .int i_this_turned, .ref a_this_word, .ref a_this_gone, .ref a_this_lines, .ref a_this_places, .ref a_this_square])), (a_this_lines, .inl (cI, n_this_lines, .inl f_this_lines)), (a_this_places, .inl (cI, n_this_places, .inl f_this_places)), (a_this_word, .inl (cI, n_this_word, .inl f_this_word))] U.heap ∧ va_K (dC, dI) vwCl [(cI, .int), (cJ, .long), (cZ, .boolean)] U ∧ va_D (fun _ => True) [(a_this, .inr (4, [.int i_this_thrown, .int i_this_kind, .int i_this_form, .ref a_this_bits, .ref a_this_values, .ref a_this_has, .int i_this_fields, .int i_this_checks, .int i_this_symbols, .ref a_this_row, .int i_this_size, .ref a_this_seen, .int i_this_many, .ref a_this_told, .int i_this_right, .int i_this_mended, .int i_this_mask, .int i_this_turned, .ref a_this_word, .ref a_this_gone, .ref a_this_lines, .ref a_this_places, .ref a_this_square])), (a_this_lines, .inl (cI, n_this_lines, .inl f_this_lines)), (a_this_places, .inl (cI, n_this_places, .inl f_this_places)), (a_this_word, .inl (cI, n_this_word, .inl f_this_word))])) (va_Qv (S := (Nat → Int32)) (fun u9 => u9 = r) (fun u9 t9 => va_P (dC, dI) vwCl [(a_this, .inr (4, [.int i_this_thrown, .int i_this_kind, .int i_this_form, .ref a_this_bits, .ref a_this_values, .ref a_this_has, .int i_this_fields, .int i_this_checks, .int i_this_symbols, .ref a_this_row, .int i_this_size, .ref a_this_seen, .int i_this_many, .ref a_this_told, .int i_this_right, .int i_this_mended, .int i_this_mask, .int i_this_turned, .ref a_this_word, .ref a_this_gone, .ref a_this_lines, .ref a_this_places, .ref a_this_square])), (a_this_lines, .inl (cI, n_this_lines, .inl (u9))), (a_this_places, .inl (cI, n_this_places, .inl f_this_places)), (a_this_word, .inl (cI, n_this_word, .inl f_this_word))] t9.heap ∧ va_K (dC, dI) vwCl [(cI, .int), (cJ, .long), (cZ, .boolean)] t9 ∧ va_D (va_A [(a_this, .inr (4, [.int i_this_thrown, .int i_this_kind, .int i_this_form, .ref a_this_bits, .ref a_this_values, .ref a_this_has, .int i_this_fields, .int i_this_checks, .int i_this_symbols, .ref a_this_row, .int i_this_size, .ref a_this_seen, .int i_this_many, .ref a_this_told, .int i_this_right, .int i_this_mended, .int i_this_mask, .int i_this_turned, .ref a_this_word, .ref a_this_gone, .ref a_this_lines, .ref a_this_places, .ref a_this_square])), (a_this_lines, .inl (cI, n_this_lines, .inl f_this_lines)), (a_this_places, .inl (cI, n_this_places, .inl f_this_places)), (a_this_word, .inl (cI, n_this_word, .inl f_this_word))] sz) [(a_this, .inr (4, [.int i_this_thrown, .int i_this_kind, .int i_this_form, .ref a_this_bits, .ref a_this_values, .ref a_this_has, .int i_this_fields, .int i_this_checks, .int i_this_symbols, .ref a_this_row, .int i_this_size, .ref a_this_seen, .int i_this_many, .ref a_this_told, .int i_this_right, .int i_this_mended, .int i_this_mask, .int i_this_turned, .ref a_this_word, .ref a_this_gone, .ref a_this_lines, .ref a_this_places, .ref a_this_square])), (a_this_lines, .inl (cI, n_this_lines, .inl (u9))), (a_this_places, .inl (cI, n_this_places, .inl f_this_places)), (a_this_word, .inl (cI, n_this_word, .inl f_this_word))]) (va_A [(a_this, .inr (4, [.int i_this_thrown, .int i_this_kind, .int i_this_form, .ref a_this_bits, .ref a_this_values, .ref a_this_has, .int i_this_fields, .int i_this_checks, .int i_this_symbols, .ref a_this_row, .int i_this_size, .ref a_this_seen, .int i_this_many, .ref a_this_told, .int i_this_right, .int i_this_mended, .int i_this_mask, .int i_this_turned, .ref a_this_word, .ref a_this_gone, .ref a_this_lines, .ref a_this_places, .ref a_this_square])), (a_this_lines, .inl (cI, n_this_lines, .inl f_this_lines)), (a_this_places, .inl (cI, n_this_places, .inl f_this_places)), (a_this_word, .inl (cI, n_this_word, .inl f_this_word))] sz)) 0 0 (va_A [(a_this, .inr (4, [.int i_this_thrown, .int i_this_kind, .int i_this_form, .ref a_this_bits, .ref a_this_values, .ref a_this_has, .int i_this_fields, .int i_this_checks, .int i_this_symbols, .ref a_this_row, .int i_this_size, .ref a_this_seen, .int i_this_many, .ref a_this_told, .int i_this_right, .int i_this_mended, .int i_this_mask, .int i_this_turned, .ref a_this_word, .ref a_this_gone, .ref a_this_lines, .ref a_this_places, .ref a_this_square])), (a_this_lines, .inl (cI, n_this_lines, .inl f_this_lines)), (a_this_places, .inl (cI, n_this_places, .inl f_this_places)), (a_this_word, .inl (cI, n_this_word, .inl f_this_word))] sz) := by
  refine Met.ofW (cc := cX5_write) (maxL := 4) (ret := none) (by decide) rfl ?_
  intro p e s m args below meth c s₁ B hml hv
  obtain ⟨eargs, hsz, hP, hK, hD0⟩ := hv
  have hx := B.exec
  have hb := B.bytes
  have hr := B.returns
  have hts := atoms_spec (ws := wsX5_write) B.pre
  have hown : s.vm.findClass RX5 = some m.cls := findClass_of_methodNamed B.named
  have hlocks := B.notSynchronized
  refine im_Q (fun Q eQ => ?_)
  subst hsz
  have hD := hD0.self (sz := s.heap.size)
  generalize hAe : va_A [(a_this, .inr (4, [.int i_this_thrown, .int i_this_kind, .int i_this_form, .ref a_this_bits, .ref a_this_values, .ref a_this_has, .int i_this_fields, .int i_this_checks, .int i_this_symbols, .ref a_this_row, .int i_this_size, .ref a_this_seen, .int i_this_many, .ref a_this_told, .int i_this_right, .int i_this_mended, .int i_this_mask, .int i_this_turned, .ref a_this_word, .ref a_this_gone, .ref a_this_lines, .ref a_this_places, .ref a_this_square])), (a_this_lines, .inl (cI, n_this_lines, .inl f_this_lines)), (a_this_places, .inl (cI, n_this_places, .inl f_this_places)), (a_this_word, .inl (cI, n_this_word, .inl f_this_word))] s.heap.size = A at hD eQ
  have hA : ∀ q : Nat, s.heap.size ≤ q → A q := fun q h => by rw [← hAe]; exact Or.inr h
  have hS : va_S A s.heap s.heap [] := va_S.rf
  have hl := lv_entry [.ref a_this, .int x0] (n := 4) (Nat.le_of_ble_eq_true rfl)
  rw [show entryFrame m args 4 = entryFrame m ([.ref a_this, .int x0] : List Value).toArray 4 by rw [eargs], lg_entry_eq]
  generalize (lg_sl ([.ref a_this, .int x0]) ++ List.replicate (4 - (lg_sl ([.ref a_this, .int x0])).length) Slot.unset).toArray = ls at hl ⊢
  have hl : lv_has ls 4 [(0, .ref a_this), (1, .int x0)] := hl
  rw [im_X5_write] at h
  refine lv_iconst (v := (0 : Int32)) hx hb dX5_write_0 (by decide) ?_
  refine lv_istore_n (lv' := [(2, .int (0 : Int32)), (0, .ref a_this), (1, .int x0)]) hx hb dX5_write_1 rfl hl (by decide) rfl (fun ls hl => ?_)
  have Lp3 : ∀ (n : Nat) (v1 : Int32) (f2 : Nat → Int32), im_X5_write_L2 i_this_checks x0 i_this_symbols n_this_word f_this_word n_this_lines n_this_places f_this_places n v1 f2 = some r → ∀ (H : Heap) (locs : List Loc) (ls : Array Slot), va_P (dC, dI) vwCl [(a_this, .inr (4, [.int i_this_thrown, .int i_this_kind, .int i_this_form, .ref a_this_bits, .ref a_this_values, .ref a_this_has, .int i_this_fields, .int i_this_checks, .int i_this_symbols, .ref a_this_row, .int i_this_size, .ref a_this_seen, .int i_this_many, .ref a_this_told, .int i_this_right, .int i_this_mended, .int i_this_mask, .int i_this_turned, .ref a_this_word, .ref a_this_gone, .ref a_this_lines, .ref a_this_places, .ref a_this_square])), (a_this_lines, .inl (cI, n_this_lines, .inl f2)), (a_this_places, .inl (cI, n_this_places, .inl f_this_places)), (a_this_word, .inl (cI, n_this_word, .inl f_this_word))] H → va_D A [(a_this, .inr (4, [.int i_this_thrown, .int i_this_kind, .int i_this_form, .ref a_this_bits, .ref a_this_values, .ref a_this_has, .int i_this_fields, .int i_this_checks, .int i_this_symbols, .ref a_this_row, .int i_this_size, .ref a_this_seen, .int i_this_many, .ref a_this_told, .int i_this_right, .int i_this_mended, .int i_this_mask, .int i_this_turned, .ref a_this_word, .ref a_this_gone, .ref a_this_lines, .ref a_this_places, .ref a_this_square])), (a_this_lines, .inl (cI, n_this_lines, .inl f2)), (a_this_places, .inl (cI, n_this_places, .inl f_this_places)), (a_this_word, .inl (cI, n_this_word, .inl f_this_word))] → va_S A s.heap H locs → lv_has ls 4 [(0, .ref a_this), (1, .int x0), (2, .int v1)] → W p l e (headSpec wsX5_write rm_X5_write).room s m args below meth c H locs 0 0 Q (F0 m 2 ls []) := by
    intro n
    induction n with
    | zero => intro v1 f2 h; rw [im_X5_write_L2] at h; cases h
    | succ n ih =>
      intro v1 f2 h H locs ls hP hD hS hl
      rw [im_X5_write_L2] at h
      refine lv_iload_n hx hb dX5_write_2 rfl (lv_at hl 2 rfl) ?_
      refine lv_aload_n hx hb dX5_write_3 rfl (lv_at hl 0 rfl) ?_
      refine va_get (D := (dC, dI)) (ci := 4) (v := .int i_this_checks) (C := RX5) (T := TX5) (N := 23) hx hb hts hn_X5_write_X5 hown hK hP 0 rfl rfl 7 (by decide) (hts _ fl_X5_write_62) (fun _ h9 => h9) rfl dX5_write_4 ?_
      refine lv_icmp_ge (tgt := 81) hx hb dX5_write_7 (by decide) (fun c7 => ?_) (fun c7 => ?_)
      · replace h := im_t c7 h
        rw [eQ]
        exact W.vret hx hb hr (fun t ht hW => ⟨⟨f2, rfl, Option.some.inj h, by rw [ht]; exact hP, va_K.moved hW.alike hK, hD⟩, hS.F ht⟩) hS.2.2 dX5_write_81
      · replace h := im_f c7 h
        refine lv_iconst (v := (0 : Int32)) hx hb dX5_write_10 (by decide) ?_
        refine lv_istore_n (lv' := [(3, .int (0 : Int32)), (0, .ref a_this), (1, .int x0), (2, .int v1)]) hx hb dX5_write_11 rfl hl (by decide) rfl (fun ls hl => ?_)
        refine im_j1_u (P := fun f4 => ∀ (H : Heap) (locs : List Loc) (ls : Array Slot), va_P (dC, dI) vwCl [(a_this, .inr (4, [.int i_this_thrown, .int i_this_kind, .int i_this_form, .ref a_this_bits, .ref a_this_values, .ref a_this_has, .int i_this_fields, .int i_this_checks, .int i_this_symbols, .ref a_this_row, .int i_this_size, .ref a_this_seen, .int i_this_many, .ref a_this_told, .int i_this_right, .int i_this_mended, .int i_this_mask, .int i_this_turned, .ref a_this_word, .ref a_this_gone, .ref a_this_lines, .ref a_this_places, .ref a_this_square])), (a_this_lines, .inl (cI, n_this_lines, .inl f4)), (a_this_places, .inl (cI, n_this_places, .inl f_this_places)), (a_this_word, .inl (cI, n_this_word, .inl f_this_word))] H → va_D A [(a_this, .inr (4, [.int i_this_thrown, .int i_this_kind, .int i_this_form, .ref a_this_bits, .ref a_this_values, .ref a_this_has, .int i_this_fields, .int i_this_checks, .int i_this_symbols, .ref a_this_row, .int i_this_size, .ref a_this_seen, .int i_this_many, .ref a_this_told, .int i_this_right, .int i_this_mended, .int i_this_mask, .int i_this_turned, .ref a_this_word, .ref a_this_gone, .ref a_this_lines, .ref a_this_places, .ref a_this_square])), (a_this_lines, .inl (cI, n_this_lines, .inl f4)), (a_this_places, .inl (cI, n_this_places, .inl f_this_places)), (a_this_word, .inl (cI, n_this_word, .inl f_this_word))] → va_S A s.heap H locs → lv_has ls 4 [(0, .ref a_this), (1, .int x0), (2, .int v1)] → W p l e (headSpec wsX5_write rm_X5_write).room s m args below meth c H locs 0 0 Q (F0 m 57 ls [])) h (fun f4 h H locs ls hP hD hS hl => ?_) (fun K5 J5 h => ?_)
        · refine lv_aload_n hx hb dX5_write_57 rfl (lv_at hl 0 rfl) ?_
          refine va_get (D := (dC, dI)) (ci := 4) (v := .ref a_this_lines) (C := RX5) (T := TX5) (N := 23) hx hb hts hn_X5_write_X5 hown hK hP 0 rfl rfl 20 (by decide) (hts _ fl_X5_write_43) (fun _ h9 => h9) rfl dX5_write_58 ?_
          refine lv_bipush (v := (9 : Int32)) hx hb dX5_write_61 (by decide) ?_
          refine lv_iload_n hx hb dX5_write_63 rfl (lv_at hl 2 rfl) ?_
          refine lv_imul hx hb dX5_write_64 ?_
          refine lv_topi (fun v6 ev6 => ?_)
          replace h := im_lt_u h v6 ev6
          refine lv_iload_n hx hb dX5_write_65 rfl (lv_at hl 1 rfl) ?_
          refine lv_iadd hx hb dX5_write_66 ?_
          refine lv_topi (fun v7 ev7 => ?_)
          replace h := im_lt_u h v7 ev7
          refine lv_aload_n hx hb dX5_write_67 rfl (lv_at hl 0 rfl) ?_
          refine lv_iload_n hx hb dX5_write_68 rfl (lv_at hl 2 rfl) ?_
          refine lv_iconst (v := (1 : Int32)) hx hb dX5_write_69 (by decide) ?_
          refine lv_iadd hx hb dX5_write_70 ?_
          refine lv_topi (fun v8 ev8 => ?_)
          replace h := im_lt_u h v8 ev8
          obtain ⟨v9, y71, h⟩ := im_b1_u h
          have hPc := hP.sub (ws' := [(a_this, .inr (4, [.int i_this_thrown, .int i_this_kind, .int i_this_form, .ref a_this_bits, .ref a_this_values, .ref a_this_has, .int i_this_fields, .int i_this_checks, .int i_this_symbols, .ref a_this_row, .int i_this_size, .ref a_this_seen, .int i_this_many, .ref a_this_told, .int i_this_right, .int i_this_mended, .int i_this_mask, .int i_this_turned, .ref a_this_word, .ref a_this_gone, .ref a_this_lines, .ref a_this_places, .ref a_this_square])), (a_this_word, .inl (cI, n_this_word, .inl f_this_word))]) [0, 3] rfl
          refine vp_callSi (W.runV (As := [.int v8]) (rest := [.int v7, .ref a_this_lines]) ⟨hx, hb, hml, hown, hts⟩ (c_X5_sumAt l dC dI cI cJ cZ a_this a_this_bits a_this_values a_this_has a_this_row a_this_seen a_this_told a_this_word a_this_gone a_this_lines a_this_places a_this_square i_this_thrown i_this_kind i_this_form i_this_fields i_this_checks i_this_symbols i_this_size i_this_many i_this_right i_this_mended i_this_mask i_this_turned n_this_word f_this_word v8 y71) (cwV 1 hts gX5_write_X5_sumAt rfl rfl rfl (by decide +kernel) ⟨Nat.le_of_ble_eq_true rfl, Nat.le_of_ble_eq_true rfl⟩) ⟨fun a U g mk q => by obtain ⟨q0, qP, qK⟩ := q; exact ⟨q0, qP, va_K.moved (u := U) (U := U.calling g mk a) (Vm.Alike.refl U.vm) qK⟩, va_recv hK hPc (ci := 4) (q0 := 0) rfl rfl, fun U hU hW => ⟨rfl, by rw [hU]; exact hPc, va_K.moved hW.alike hK⟩⟩ rfl rfl hl.1 rfl (lv_room (Nat.le_of_ble_eq_true rfl)) dX5_write_71 ⟨Nat.zero_le _, Nat.zero_le _⟩) (fun w71 ew71 => ?_)
          have ew71 := ew71.symm
          subst ew71
          obtain ⟨q74, h⟩ := im_st_u h
          refine va_iast hx hb hK hP hD hS 1 0 rfl rfl q74 dX5_write_74 (fun H locs hP hD hS => ?_)
          obtain ⟨f10, ef10⟩ : ∃ g : Nat → Int32, g = upd f4 v7.toNatClampNeg v9 := ⟨_, rfl⟩
          replace h := h f10 ef10
          rw [← ef10] at hP hD
          have hP : va_P (dC, dI) vwCl [(a_this, .inr (4, [.int i_this_thrown, .int i_this_kind, .int i_this_form, .ref a_this_bits, .ref a_this_values, .ref a_this_has, .int i_this_fields, .int i_this_checks, .int i_this_symbols, .ref a_this_row, .int i_this_size, .ref a_this_seen, .int i_this_many, .ref a_this_told, .int i_this_right, .int i_this_mended, .int i_this_mask, .int i_this_turned, .ref a_this_word, .ref a_this_gone, .ref a_this_lines, .ref a_this_places, .ref a_this_square])), (a_this_lines, .inl (cI, n_this_lines, .inl f10)), (a_this_places, .inl (cI, n_this_places, .inl f_this_places)), (a_this_word, .inl (cI, n_this_word, .inl f_this_word))] H := hP
          have hD : va_D A [(a_this, .inr (4, [.int i_this_thrown, .int i_this_kind, .int i_this_form, .ref a_this_bits, .ref a_this_values, .ref a_this_has, .int i_this_fields, .int i_this_checks, .int i_this_symbols, .ref a_this_row, .int i_this_size, .ref a_this_seen, .int i_this_many, .ref a_this_told, .int i_this_right, .int i_this_mended, .int i_this_mask, .int i_this_turned, .ref a_this_word, .ref a_this_gone, .ref a_this_lines, .ref a_this_places, .ref a_this_square])), (a_this_lines, .inl (cI, n_this_lines, .inl f10)), (a_this_places, .inl (cI, n_this_places, .inl f_this_places)), (a_this_word, .inl (cI, n_this_word, .inl f_this_word))] := hD
          obtain ⟨v11, ev11⟩ : ∃ y : Int32, y = (v1 + (1 : Int32)) := ⟨_, rfl⟩
          replace h := im_lt_u h v11 ev11
          refine lv_iinc (v := v11) (lv' := [(2, .int v11), (0, .ref a_this), (1, .int x0)]) hx hb dX5_write_75 hl (k := 2) rfl (by rw [ev11]; rfl) (by decide) rfl (fun ls hl => ?_)
          refine lv_goto (tgt := 2) hx hb dX5_write_78 (by decide) ?_
          exact ih v11 f10 h _ _ _ hP hD hS (lv_sub hl [1, 2, 0] rfl)
        · have Lp14 : ∀ (n : Nat) (v12 : Int32) (f13 : Nat → Int32), im_X5_write_L12 x0 K5 v1 i_this_symbols n_this_places f_this_places n_this_lines n v12 f13 = some r → ∀ (H : Heap) (locs : List Loc) (ls : Array Slot), va_P (dC, dI) vwCl [(a_this, .inr (4, [.int i_this_thrown, .int i_this_kind, .int i_this_form, .ref a_this_bits, .ref a_this_values, .ref a_this_has, .int i_this_fields, .int i_this_checks, .int i_this_symbols, .ref a_this_row, .int i_this_size, .ref a_this_seen, .int i_this_many, .ref a_this_told, .int i_this_right, .int i_this_mended, .int i_this_mask, .int i_this_turned, .ref a_this_word, .ref a_this_gone, .ref a_this_lines, .ref a_this_places, .ref a_this_square])), (a_this_lines, .inl (cI, n_this_lines, .inl f13)), (a_this_places, .inl (cI, n_this_places, .inl f_this_places)), (a_this_word, .inl (cI, n_this_word, .inl f_this_word))] H → va_D A [(a_this, .inr (4, [.int i_this_thrown, .int i_this_kind, .int i_this_form, .ref a_this_bits, .ref a_this_values, .ref a_this_has, .int i_this_fields, .int i_this_checks, .int i_this_symbols, .ref a_this_row, .int i_this_size, .ref a_this_seen, .int i_this_many, .ref a_this_told, .int i_this_right, .int i_this_mended, .int i_this_mask, .int i_this_turned, .ref a_this_word, .ref a_this_gone, .ref a_this_lines, .ref a_this_places, .ref a_this_square])), (a_this_lines, .inl (cI, n_this_lines, .inl f13)), (a_this_places, .inl (cI, n_this_places, .inl f_this_places)), (a_this_word, .inl (cI, n_this_word, .inl f_this_word))] → va_S A s.heap H locs → lv_has ls 4 [(0, .ref a_this), (1, .int x0), (2, .int v1), (3, .int v12)] → W p l e (headSpec wsX5_write rm_X5_write).room s m args below meth c H locs 0 0 Q (F0 m 12 ls []) := by
            intro n
            induction n with
            | zero => intro v12 f13 h; rw [im_X5_write_L12] at h; cases h
            | succ n ih =>
              intro v12 f13 h H locs ls hP hD hS hl
              rw [im_X5_write_L12] at h
              refine lv_iload_n hx hb dX5_write_12 rfl (lv_at hl 3 rfl) ?_
              refine lv_iload_n hx hb dX5_write_13 rfl (lv_at hl 1 rfl) ?_
              refine lv_icmp_ge (tgt := 57) hx hb dX5_write_14 (by decide) (fun c14 => ?_) (fun c14 => ?_)
              · replace h := im_t c14 h
                exact J5 f13 h _ _ _ hP hD hS (lv_sub hl [0, 1, 2] rfl)
              · replace h := im_f c14 h
                refine lv_aload_n hx hb dX5_write_17 rfl (lv_at hl 0 rfl) ?_
                refine va_get (D := (dC, dI)) (ci := 4) (v := .ref a_this_lines) (C := RX5) (T := TX5) (N := 23) hx hb hts hn_X5_write_X5 hown hK hP 0 rfl rfl 20 (by decide) (hts _ fl_X5_write_43) (fun _ h9 => h9) rfl dX5_write_18 ?_
                refine lv_bipush (v := (9 : Int32)) hx hb dX5_write_21 (by decide) ?_
                refine lv_iload_n hx hb dX5_write_23 rfl (lv_at hl 2 rfl) ?_
                refine lv_imul hx hb dX5_write_24 ?_
                refine lv_topi (fun v15 ev15 => ?_)
                replace h := im_lt_u h v15 ev15
                refine lv_iload_n hx hb dX5_write_25 rfl (lv_at hl 3 rfl) ?_
                refine lv_iadd hx hb dX5_write_26 ?_
                refine lv_topi (fun v16 ev16 => ?_)
                replace h := im_lt_u h v16 ev16
                refine lv_aload_n hx hb dX5_write_27 rfl (lv_at hl 0 rfl) ?_
                refine va_get (D := (dC, dI)) (ci := 4) (v := .int i_this_symbols) (C := RX5) (T := TX5) (N := 23) hx hb hts hn_X5_write_X5 hown hK hP 0 rfl rfl 8 (by decide) (hts _ fl_X5_write_65) (fun _ h9 => h9) rfl dX5_write_28 ?_
                refine lv_iconst (v := (1 : Int32)) hx hb dX5_write_31 (by decide) ?_
                refine lv_isub hx hb dX5_write_32 ?_
                refine lv_topi (fun v17 ev17 => ?_)
                replace h := im_lt_u h v17 ev17
                refine lv_aload_n hx hb dX5_write_33 rfl (lv_at hl 0 rfl) ?_
                refine va_get (D := (dC, dI)) (ci := 4) (v := .ref a_this_places) (C := RX5) (T := TX5) (N := 23) hx hb hts hn_X5_write_X5 hown hK hP 0 rfl rfl 21 (by decide) (hts _ fl_X5_write_46) (fun _ h9 => h9) rfl dX5_write_34 ?_
                refine lv_iload_n hx hb dX5_write_37 rfl (lv_at hl 3 rfl) ?_
                obtain ⟨q38, h⟩ := im_ld_u h
                refine va_iald hx hb hK hP 2 0 rfl rfl q38 dX5_write_38 ?_
                refine lv_topi (fun v18 ev18 => ?_)
                replace h := h v18 ev18
                refine lv_isub hx hb dX5_write_39 ?_
                refine lv_topi (fun v19 ev19 => ?_)
                replace h := im_lt_u h v19 ev19
                refine lv_iload_n hx hb dX5_write_40 rfl (lv_at hl 2 rfl) ?_
                refine lv_iconst (v := (1 : Int32)) hx hb dX5_write_41 (by decide) ?_
                refine lv_iadd hx hb dX5_write_42 ?_
                refine lv_topi (fun v20 ev20 => ?_)
                replace h := im_lt_u h v20 ev20
                refine lv_imul hx hb dX5_write_43 ?_
                refine lv_topi (fun v21 ev21 => ?_)
                replace h := im_lt_u h v21 ev21
                refine lv_bipush (v := (63 : Int32)) hx hb dX5_write_44 (by decide) ?_
                refine lv_irem hx hb dX5_write_46 (by decide) ?_
                refine lv_topi (fun v22 ev22 => ?_)
                replace h := im_lt_u h v22 ev22
                obtain ⟨v23, y47, h⟩ := im_b1_u h
                refine vp_callSi (W.runS (As := [.int v22]) (rest := [.int v16, .ref a_this_lines]) ⟨hx, hb, hml, hown, hts⟩ (c_X5_power l v22 y47) (va_cwS 1 hts gX5_write_X5_power rfl rfl rfl (by decide +kernel) ⟨Nat.le_of_ble_eq_true rfl, Nat.le_of_ble_eq_true rfl⟩) ⟨fun _ _ _ _ q => q, fun U hU hW => ⟨rfl, trivial⟩⟩ rfl rfl hl.1 rfl (lv_room (Nat.le_of_ble_eq_true rfl)) dX5_write_47 ⟨Nat.zero_le _, Nat.zero_le _⟩) (fun w47 ew47 => ?_)
                have ew47 := ew47.symm
                subst ew47
                obtain ⟨q50, h⟩ := im_st_u h
                refine va_iast hx hb hK hP hD hS 1 0 rfl rfl q50 dX5_write_50 (fun H locs hP hD hS => ?_)
                obtain ⟨f24, ef24⟩ : ∃ g : Nat → Int32, g = upd f13 v16.toNatClampNeg v23 := ⟨_, rfl⟩
                replace h := h f24 ef24
                rw [← ef24] at hP hD
                have hP : va_P (dC, dI) vwCl [(a_this, .inr (4, [.int i_this_thrown, .int i_this_kind, .int i_this_form, .ref a_this_bits, .ref a_this_values, .ref a_this_has, .int i_this_fields, .int i_this_checks, .int i_this_symbols, .ref a_this_row, .int i_this_size, .ref a_this_seen, .int i_this_many, .ref a_this_told, .int i_this_right, .int i_this_mended, .int i_this_mask, .int i_this_turned, .ref a_this_word, .ref a_this_gone, .ref a_this_lines, .ref a_this_places, .ref a_this_square])), (a_this_lines, .inl (cI, n_this_lines, .inl f24)), (a_this_places, .inl (cI, n_this_places, .inl f_this_places)), (a_this_word, .inl (cI, n_this_word, .inl f_this_word))] H := hP
                have hD : va_D A [(a_this, .inr (4, [.int i_this_thrown, .int i_this_kind, .int i_this_form, .ref a_this_bits, .ref a_this_values, .ref a_this_has, .int i_this_fields, .int i_this_checks, .int i_this_symbols, .ref a_this_row, .int i_this_size, .ref a_this_seen, .int i_this_many, .ref a_this_told, .int i_this_right, .int i_this_mended, .int i_this_mask, .int i_this_turned, .ref a_this_word, .ref a_this_gone, .ref a_this_lines, .ref a_this_places, .ref a_this_square])), (a_this_lines, .inl (cI, n_this_lines, .inl f24)), (a_this_places, .inl (cI, n_this_places, .inl f_this_places)), (a_this_word, .inl (cI, n_this_word, .inl f_this_word))] := hD
                obtain ⟨v25, ev25⟩ : ∃ y : Int32, y = (v12 + (1 : Int32)) := ⟨_, rfl⟩
                replace h := im_lt_u h v25 ev25
                refine lv_iinc (v := v25) (lv' := [(3, .int v25), (0, .ref a_this), (1, .int x0), (2, .int v1)]) hx hb dX5_write_51 hl (k := 3) rfl (by rw [ev25]; rfl) (by decide) rfl (fun ls hl => ?_)
                refine lv_goto (tgt := 12) hx hb dX5_write_54 (by decide) ?_
                exact ih v25 f24 h _ _ _ hP hD hS (lv_sub hl [1, 2, 3, 0] rfl)
          exact Lp14 5000 (0 : Int32) f2 h _ _ _ hP hD hS (lv_sub hl [1, 2, 3, 0] rfl)
  exact Lp3 5000 (0 : Int32) f_this_lines h _ _ _ hP hD hS (lv_sub hl [1, 2, 0] rfl)
def im_X5_exchange_L2 (x0 : Int32) (n_this_lines : Nat) (x1 : Int32) : Nat → Int32 → (Nat → Int32) → Option ((Nat → Int32))
  | 0, _, _ => none
  | n + 1, v1, f2 => if (9 : Int32) ≤ v1 then (some f2) else im_lt ((9 : Int32) * x0) (fun v4 => im_lt (v4 + v1) (fun v5 => im_ld n_this_lines f2 v5 (fun v6 => im_lt ((9 : Int32) * x0) (fun v7 => im_lt (v7 + v1) (fun v8 => im_lt ((9 : Int32) * x1) (fun v9 => im_lt (v9 + v1) (fun v10 => im_ld n_this_lines f2 v10 (fun v11 => im_st n_this_lines f2 v8 v11 (fun f12 => im_lt ((9 : Int32) * x1) (fun v13 => im_lt (v13 + v1) (fun v14 => im_st n_this_lines f12 v14 v6 (fun f15 => im_lt (v1 + (1 : Int32)) (fun v16 => (im_X5_exchange_L2 x0 n_this_lines x1 n v16 f15))))))))))))))
def im_X5_exchange (x0 : Int32) (x1 : Int32) (n_this_lines : Nat) (f_this_lines : Nat → Int32) : Option ((Nat → Int32)) := (im_X5_exchange_L2 x0 n_this_lines x1 5000 (0 : Int32) f_this_lines)
abbrev rm_X5_exchange : Room := { frames := 0, cells := 0, slots := 0, locals := 0 }
theorem hn_X5_exchange_X5 : ∀ w ∈ wsX50, w ∈ wsX5_exchange := by decide +kernel
theorem fl_X5_exchange_43 : Cond.fieldLink RX5 43 "BarCodesModel" "lines" "[I" ∈ wsX5_exchange := by decide +kernel
set_option maxHeartbeats 4000000 in
set_option maxRecDepth 100000 in
theorem c_X5_exchange (l : Launch) (dC : Nat → ClassId) (dI : Nat → Nat → Nat) (cI cJ cZ : ClassId) (sz : Nat) (a_this a_this_bits a_this_values a_this_has a_this_row a_this_seen a_this_told a_this_word a_this_gone a_this_lines a_this_places a_this_square : Nat) (i_this_thrown i_this_kind i_this_form i_this_fields i_this_checks i_this_symbols i_this_size i_this_many i_this_right i_this_mended i_this_mask i_this_turned : Int32) (n_this_lines : Nat) (f_this_lines : Nat → Int32) (x0 : Int32) (x1 : Int32) {r : (Nat → Int32)} (h : im_X5_exchange x0 x1 n_this_lines f_this_lines = some r) : Met l yX5_exchange wsX5_exchange rm_X5_exchange (va_Pc [.ref a_this, .int x0, .int x1] (fun U => U.heap.size = sz ∧ va_P (dC, dI) vwCl [(a_this, .inr (4, [.int i_this_thrown, .int i_this_kind, .int i_this_form, .ref a_this_bits, .ref a_this_values, .ref a_this_has, .int i_this_fields, .int i_this_checks, .int i_this_symbols, .ref a_this_row, .int i_this_size, .ref a_this_seen, .int i_this_many, .ref a_this_told, .int i_this_right, .int i_this_mended, .int i_this_mask, .int i_this_turned, .ref a_this_word, .ref a_this_gone, .ref a_this_lines, .ref a_this_places, .ref a_this_square])), (a_this_lines, .inl (cI, n_this_lines, .inl f_this_lines))] U.heap ∧ va_K (dC, dI) vwCl [(cI, .int), (cJ, .long), (cZ, .boolean)] U ∧ va_D (fun _ => True) [(a_this, .inr (4, [.int i_this_thrown, .int i_this_kind, .int i_this_form, .ref a_this_bits, .ref a_this_values, .ref a_this_has, .int i_this_fields, .int i_this_checks, .int i_this_symbols, .ref a_this_row, .int i_this_size, .ref a_this_seen, .int i_this_many, .ref a_this_told, .int i_this_right, .int i_this_mended, .int i_this_mask, .int i_this_turned, .ref a_this_word, .ref a_this_gone, .ref a_this_lines, .ref a_this_places, .ref a_this_square])), (a_this_lines, .inl (cI, n_this_lines, .inl f_this_lines))])) (va_Qv (S := (Nat → Int32)) (fun u9 => u9 = r) (fun u9 t9 => va_P (dC, dI) vwCl [(a_this, .inr (4, [.int i_this_thrown, .int i_this_kind, .int i_this_form, .ref a_this_bits, .ref a_this_values, .ref a_this_has, .int i_this_fields, .int i_this_checks, .int i_this_symbols, .ref a_this_row, .int i_this_size, .ref a_this_seen, .int i_this_many, .ref a_this_told, .int i_this_right, .int i_this_mended, .int i_this_mask, .int i_this_turned, .ref a_this_word, .ref a_this_gone, .ref a_this_lines, .ref a_this_places, .ref a_this_square])), (a_this_lines, .inl (cI, n_this_lines, .inl (u9)))] t9.heap ∧ va_K (dC, dI) vwCl [(cI, .int), (cJ, .long), (cZ, .boolean)] t9 ∧ va_D (va_A [(a_this, .inr (4, [.int i_this_thrown, .int i_this_kind, .int i_this_form, .ref a_this_bits, .ref a_this_values, .ref a_this_has, .int i_this_fields, .int i_this_checks, .int i_this_symbols, .ref a_this_row, .int i_this_size, .ref a_this_seen, .int i_this_many, .ref a_this_told, .int i_this_right, .int i_this_mended, .int i_this_mask, .int i_this_turned, .ref a_this_word, .ref a_this_gone, .ref a_this_lines, .ref a_this_places, .ref a_this_square])), (a_this_lines, .inl (cI, n_this_lines, .inl f_this_lines))] sz) [(a_this, .inr (4, [.int i_this_thrown, .int i_this_kind, .int i_this_form, .ref a_this_bits, .ref a_this_values, .ref a_this_has, .int i_this_fields, .int i_this_checks, .int i_this_symbols, .ref a_this_row, .int i_this_size, .ref a_this_seen, .int i_this_many, .ref a_this_told, .int i_this_right, .int i_this_mended, .int i_this_mask, .int i_this_turned, .ref a_this_word, .ref a_this_gone, .ref a_this_lines, .ref a_this_places, .ref a_this_square])), (a_this_lines, .inl (cI, n_this_lines, .inl (u9)))]) (va_A [(a_this, .inr (4, [.int i_this_thrown, .int i_this_kind, .int i_this_form, .ref a_this_bits, .ref a_this_values, .ref a_this_has, .int i_this_fields, .int i_this_checks, .int i_this_symbols, .ref a_this_row, .int i_this_size, .ref a_this_seen, .int i_this_many, .ref a_this_told, .int i_this_right, .int i_this_mended, .int i_this_mask, .int i_this_turned, .ref a_this_word, .ref a_this_gone, .ref a_this_lines, .ref a_this_places, .ref a_this_square])), (a_this_lines, .inl (cI, n_this_lines, .inl f_this_lines))] sz)) 0 0 (va_A [(a_this, .inr (4, [.int i_this_thrown, .int i_this_kind, .int i_this_form, .ref a_this_bits, .ref a_this_values, .ref a_this_has, .int i_this_fields, .int i_this_checks, .int i_this_symbols, .ref a_this_row, .int i_this_size, .ref a_this_seen, .int i_this_many, .ref a_this_told, .int i_this_right, .int i_this_mended, .int i_this_mask, .int i_this_turned, .ref a_this_word, .ref a_this_gone, .ref a_this_lines, .ref a_this_places, .ref a_this_square])), (a_this_lines, .inl (cI, n_this_lines, .inl f_this_lines))] sz) := by
  refine Met.ofW (cc := cX5_exchange) (maxL := 5) (ret := none) (by decide) rfl ?_
  intro p e s m args below meth c s₁ B hml hv
  obtain ⟨eargs, hsz, hP, hK, hD0⟩ := hv
  have hx := B.exec
  have hb := B.bytes
  have hr := B.returns
  have hts := atoms_spec (ws := wsX5_exchange) B.pre
  have hown : s.vm.findClass RX5 = some m.cls := findClass_of_methodNamed B.named
  have hlocks := B.notSynchronized
  refine im_Q (fun Q eQ => ?_)
  subst hsz
  have hD := hD0.self (sz := s.heap.size)
  generalize hAe : va_A [(a_this, .inr (4, [.int i_this_thrown, .int i_this_kind, .int i_this_form, .ref a_this_bits, .ref a_this_values, .ref a_this_has, .int i_this_fields, .int i_this_checks, .int i_this_symbols, .ref a_this_row, .int i_this_size, .ref a_this_seen, .int i_this_many, .ref a_this_told, .int i_this_right, .int i_this_mended, .int i_this_mask, .int i_this_turned, .ref a_this_word, .ref a_this_gone, .ref a_this_lines, .ref a_this_places, .ref a_this_square])), (a_this_lines, .inl (cI, n_this_lines, .inl f_this_lines))] s.heap.size = A at hD eQ
  have hA : ∀ q : Nat, s.heap.size ≤ q → A q := fun q h => by rw [← hAe]; exact Or.inr h
  have hS : va_S A s.heap s.heap [] := va_S.rf
  have hl := lv_entry [.ref a_this, .int x0, .int x1] (n := 5) (Nat.le_of_ble_eq_true rfl)
  rw [show entryFrame m args 5 = entryFrame m ([.ref a_this, .int x0, .int x1] : List Value).toArray 5 by rw [eargs], lg_entry_eq]
  generalize (lg_sl ([.ref a_this, .int x0, .int x1]) ++ List.replicate (5 - (lg_sl ([.ref a_this, .int x0, .int x1])).length) Slot.unset).toArray = ls at hl ⊢
  have hl : lv_has ls 5 [(0, .ref a_this), (1, .int x0), (2, .int x1)] := hl
  rw [im_X5_exchange] at h
  refine lv_iconst (v := (0 : Int32)) hx hb dX5_exchange_0 (by decide) ?_
  refine lv_istore_n (lv' := [(3, .int (0 : Int32)), (0, .ref a_this), (1, .int x0), (2, .int x1)]) hx hb dX5_exchange_1 rfl hl (by decide) rfl (fun ls hl => ?_)
  have Lp3 : ∀ (n : Nat) (v1 : Int32) (f2 : Nat → Int32), im_X5_exchange_L2 x0 n_this_lines x1 n v1 f2 = some r → ∀ (H : Heap) (locs : List Loc) (ls : Array Slot), va_P (dC, dI) vwCl [(a_this, .inr (4, [.int i_this_thrown, .int i_this_kind, .int i_this_form, .ref a_this_bits, .ref a_this_values, .ref a_this_has, .int i_this_fields, .int i_this_checks, .int i_this_symbols, .ref a_this_row, .int i_this_size, .ref a_this_seen, .int i_this_many, .ref a_this_told, .int i_this_right, .int i_this_mended, .int i_this_mask, .int i_this_turned, .ref a_this_word, .ref a_this_gone, .ref a_this_lines, .ref a_this_places, .ref a_this_square])), (a_this_lines, .inl (cI, n_this_lines, .inl f2))] H → va_D A [(a_this, .inr (4, [.int i_this_thrown, .int i_this_kind, .int i_this_form, .ref a_this_bits, .ref a_this_values, .ref a_this_has, .int i_this_fields, .int i_this_checks, .int i_this_symbols, .ref a_this_row, .int i_this_size, .ref a_this_seen, .int i_this_many, .ref a_this_told, .int i_this_right, .int i_this_mended, .int i_this_mask, .int i_this_turned, .ref a_this_word, .ref a_this_gone, .ref a_this_lines, .ref a_this_places, .ref a_this_square])), (a_this_lines, .inl (cI, n_this_lines, .inl f2))] → va_S A s.heap H locs → lv_has ls 5 [(0, .ref a_this), (1, .int x0), (2, .int x1), (3, .int v1)] → W p l e (headSpec wsX5_exchange rm_X5_exchange).room s m args below meth c H locs 0 0 Q (F0 m 2 ls []) := by
    intro n
    induction n with
    | zero => intro v1 f2 h; rw [im_X5_exchange_L2] at h; cases h
    | succ n ih =>
      intro v1 f2 h H locs ls hP hD hS hl
      rw [im_X5_exchange_L2] at h
      refine lv_iload_n hx hb dX5_exchange_2 rfl (lv_at hl 3 rfl) ?_
      refine lv_bipush (v := (9 : Int32)) hx hb dX5_exchange_3 (by decide) ?_
      refine lv_icmp_ge (tgt := 62) hx hb dX5_exchange_5 (by decide) (fun c5 => ?_) (fun c5 => ?_)
      · replace h := im_t c5 h
        rw [eQ]
        exact W.vret hx hb hr (fun t ht hW => ⟨⟨f2, rfl, Option.some.inj h, by rw [ht]; exact hP, va_K.moved hW.alike hK, hD⟩, hS.F ht⟩) hS.2.2 dX5_exchange_62
      · replace h := im_f c5 h
        refine lv_aload_n hx hb dX5_exchange_8 rfl (lv_at hl 0 rfl) ?_
        refine va_get (D := (dC, dI)) (ci := 4) (v := .ref a_this_lines) (C := RX5) (T := TX5) (N := 23) hx hb hts hn_X5_exchange_X5 hown hK hP 0 rfl rfl 20 (by decide) (hts _ fl_X5_exchange_43) (fun _ h9 => h9) rfl dX5_exchange_9 ?_
        refine lv_bipush (v := (9 : Int32)) hx hb dX5_exchange_12 (by decide) ?_
        refine lv_iload_n hx hb dX5_exchange_14 rfl (lv_at hl 1 rfl) ?_
        refine lv_imul hx hb dX5_exchange_15 ?_
        refine lv_topi (fun v4 ev4 => ?_)
        replace h := im_lt_u h v4 ev4
        refine lv_iload_n hx hb dX5_exchange_16 rfl (lv_at hl 3 rfl) ?_
        refine lv_iadd hx hb dX5_exchange_17 ?_
        refine lv_topi (fun v5 ev5 => ?_)
        replace h := im_lt_u h v5 ev5
        obtain ⟨q18, h⟩ := im_ld_u h
        refine va_iald hx hb hK hP 1 0 rfl rfl q18 dX5_exchange_18 ?_
        refine lv_topi (fun v6 ev6 => ?_)
        replace h := h v6 ev6
        refine lv_istore (lv' := [(4, .int v6), (0, .ref a_this), (1, .int x0), (2, .int x1), (3, .int v1)]) hx hb dX5_exchange_19 hl (by decide) rfl (fun ls hl => ?_)
        refine lv_aload_n hx hb dX5_exchange_21 rfl (lv_at hl 1 rfl) ?_
        refine va_get (D := (dC, dI)) (ci := 4) (v := .ref a_this_lines) (C := RX5) (T := TX5) (N := 23) hx hb hts hn_X5_exchange_X5 hown hK hP 0 rfl rfl 20 (by decide) (hts _ fl_X5_exchange_43) (fun _ h9 => h9) rfl dX5_exchange_22 ?_
        refine lv_bipush (v := (9 : Int32)) hx hb dX5_exchange_25 (by decide) ?_
        refine lv_iload_n hx hb dX5_exchange_27 rfl (lv_at hl 2 rfl) ?_
        refine lv_imul hx hb dX5_exchange_28 ?_
        refine lv_topi (fun v7 ev7 => ?_)
        replace h := im_lt_u h v7 ev7
        refine lv_iload_n hx hb dX5_exchange_29 rfl (lv_at hl 4 rfl) ?_
        refine lv_iadd hx hb dX5_exchange_30 ?_
        refine lv_topi (fun v8 ev8 => ?_)
        replace h := im_lt_u h v8 ev8
        refine lv_aload_n hx hb dX5_exchange_31 rfl (lv_at hl 1 rfl) ?_
        refine va_get (D := (dC, dI)) (ci := 4) (v := .ref a_this_lines) (C := RX5) (T := TX5) (N := 23) hx hb hts hn_X5_exchange_X5 hown hK hP 0 rfl rfl 20 (by decide) (hts _ fl_X5_exchange_43) (fun _ h9 => h9) rfl dX5_exchange_32 ?_
        refine lv_bipush (v := (9 : Int32)) hx hb dX5_exchange_35 (by decide) ?_
        refine lv_iload_n hx hb dX5_exchange_37 rfl (lv_at hl 3 rfl) ?_
        refine lv_imul hx hb dX5_exchange_38 ?_
        refine lv_topi (fun v9 ev9 => ?_)
        replace h := im_lt_u h v9 ev9
        refine lv_iload_n hx hb dX5_exchange_39 rfl (lv_at hl 4 rfl) ?_
        refine lv_iadd hx hb dX5_exchange_40 ?_
        refine lv_topi (fun v10 ev10 => ?_)
        replace h := im_lt_u h v10 ev10
        obtain ⟨q41, h⟩ := im_ld_u h
        refine va_iald hx hb hK hP 1 0 rfl rfl q41 dX5_exchange_41 ?_
        refine lv_topi (fun v11 ev11 => ?_)
        replace h := h v11 ev11
        obtain ⟨q42, h⟩ := im_st_u h
        refine va_iast hx hb hK hP hD hS 1 0 rfl rfl q42 dX5_exchange_42 (fun H locs hP hD hS => ?_)
        obtain ⟨f12, ef12⟩ : ∃ g : Nat → Int32, g = upd f2 v8.toNatClampNeg v11 := ⟨_, rfl⟩
        replace h := h f12 ef12
        rw [← ef12] at hP hD
        have hP : va_P (dC, dI) vwCl [(a_this, .inr (4, [.int i_this_thrown, .int i_this_kind, .int i_this_form, .ref a_this_bits, .ref a_this_values, .ref a_this_has, .int i_this_fields, .int i_this_checks, .int i_this_symbols, .ref a_this_row, .int i_this_size, .ref a_this_seen, .int i_this_many, .ref a_this_told, .int i_this_right, .int i_this_mended, .int i_this_mask, .int i_this_turned, .ref a_this_word, .ref a_this_gone, .ref a_this_lines, .ref a_this_places, .ref a_this_square])), (a_this_lines, .inl (cI, n_this_lines, .inl f12))] H := hP
        have hD : va_D A [(a_this, .inr (4, [.int i_this_thrown, .int i_this_kind, .int i_this_form, .ref a_this_bits, .ref a_this_values, .ref a_this_has, .int i_this_fields, .int i_this_checks, .int i_this_symbols, .ref a_this_row, .int i_this_size, .ref a_this_seen, .int i_this_many, .ref a_this_told, .int i_this_right, .int i_this_mended, .int i_this_mask, .int i_this_turned, .ref a_this_word, .ref a_this_gone, .ref a_this_lines, .ref a_this_places, .ref a_this_square])), (a_this_lines, .inl (cI, n_this_lines, .inl f12))] := hD
        refine lv_aload_n hx hb dX5_exchange_43 rfl (lv_at hl 1 rfl) ?_
        refine va_get (D := (dC, dI)) (ci := 4) (v := .ref a_this_lines) (C := RX5) (T := TX5) (N := 23) hx hb hts hn_X5_exchange_X5 hown hK hP 0 rfl rfl 20 (by decide) (hts _ fl_X5_exchange_43) (fun _ h9 => h9) rfl dX5_exchange_44 ?_
        refine lv_bipush (v := (9 : Int32)) hx hb dX5_exchange_47 (by decide) ?_
        refine lv_iload_n hx hb dX5_exchange_49 rfl (lv_at hl 3 rfl) ?_
        refine lv_imul hx hb dX5_exchange_50 ?_
        refine lv_topi (fun v13 ev13 => ?_)
        replace h := im_lt_u h v13 ev13
        refine lv_iload_n hx hb dX5_exchange_51 rfl (lv_at hl 4 rfl) ?_
        refine lv_iadd hx hb dX5_exchange_52 ?_
        refine lv_topi (fun v14 ev14 => ?_)
        replace h := im_lt_u h v14 ev14
        refine lv_iload hx hb dX5_exchange_53 (lv_at hl 0 rfl) ?_
        obtain ⟨q55, h⟩ := im_st_u h
        refine va_iast hx hb hK hP hD hS 1 0 rfl rfl q55 dX5_exchange_55 (fun H locs hP hD hS => ?_)
        obtain ⟨f15, ef15⟩ : ∃ g : Nat → Int32, g = upd f12 v14.toNatClampNeg v6 := ⟨_, rfl⟩
        replace h := h f15 ef15
        rw [← ef15] at hP hD
        have hP : va_P (dC, dI) vwCl [(a_this, .inr (4, [.int i_this_thrown, .int i_this_kind, .int i_this_form, .ref a_this_bits, .ref a_this_values, .ref a_this_has, .int i_this_fields, .int i_this_checks, .int i_this_symbols, .ref a_this_row, .int i_this_size, .ref a_this_seen, .int i_this_many, .ref a_this_told, .int i_this_right, .int i_this_mended, .int i_this_mask, .int i_this_turned, .ref a_this_word, .ref a_this_gone, .ref a_this_lines, .ref a_this_places, .ref a_this_square])), (a_this_lines, .inl (cI, n_this_lines, .inl f15))] H := hP
        have hD : va_D A [(a_this, .inr (4, [.int i_this_thrown, .int i_this_kind, .int i_this_form, .ref a_this_bits, .ref a_this_values, .ref a_this_has, .int i_this_fields, .int i_this_checks, .int i_this_symbols, .ref a_this_row, .int i_this_size, .ref a_this_seen, .int i_this_many, .ref a_this_told, .int i_this_right, .int i_this_mended, .int i_this_mask, .int i_this_turned, .ref a_this_word, .ref a_this_gone, .ref a_this_lines, .ref a_this_places, .ref a_this_square])), (a_this_lines, .inl (cI, n_this_lines, .inl f15))] := hD
        obtain ⟨v16, ev16⟩ : ∃ y : Int32, y = (v1 + (1 : Int32)) := ⟨_, rfl⟩
        replace h := im_lt_u h v16 ev16
        refine lv_iinc (v := v16) (lv' := [(3, .int v16), (4, .int v6), (0, .ref a_this), (1, .int x0), (2, .int x1)]) hx hb dX5_exchange_56 hl (k := 4) rfl (by rw [ev16]; rfl) (by decide) rfl (fun ls hl => ?_)
        refine lv_goto (tgt := 2) hx hb dX5_exchange_59 (by decide) ?_
        exact ih v16 f15 h _ _ _ hP hD hS (lv_sub hl [2, 3, 4, 0] rfl)
  exact Lp3 5000 (0 : Int32) f_this_lines h _ _ _ hP hD hS (lv_sub hl [1, 2, 3, 0] rfl)
def im_X5_solve_L227 (i_this_checks : Int32) (f2 : Nat → Int32) (x0 : Int32) (n_this_lines : Nat) : Nat → Int32 → Option (Int32 × (Nat → Int32))
  | 0, _ => none
  | n + 1, v4 => if i_this_checks ≤ v4 then (some ((1 : Int32), f2)) else im_lt ((9 : Int32) * v4) (fun v6 => im_lt (v6 + x0) (fun v7 => im_ld n_this_lines f2 v7 (fun v8 => if v8 = 0 then im_lt (v4 + (1 : Int32)) (fun v9 => (im_X5_solve_L227 i_this_checks f2 x0 n_this_lines n v9)) else (some ((0 : Int32), f2)))))
def im_X5_solve_L157 (x0 : Int32) (K31 : (Nat → Int32) → Option (Int32 × (Nat → Int32))) (v25 : Int32) (n_this_lines : Nat) (v10 : Int32) (v28 : Int32) : Nat → Int32 → (Nat → Int32) → Option (Int32 × (Nat → Int32))
  | 0, _, _ => none
  | n + 1, v33, f34 => if x0 < v33 then (K31 f34) else im_lt ((9 : Int32) * v25) (fun v36 => im_lt (v36 + v33) (fun v37 => im_lt ((9 : Int32) * v25) (fun v38 => im_lt (v38 + v33) (fun v39 => im_ld n_this_lines f34 v39 (fun v40 => im_lt ((9 : Int32) * v10) (fun v41 => im_lt (v41 + v33) (fun v42 => im_ld n_this_lines f34 v42 (fun v43 => im_b1 (im_X5_times v28 v43) (fun v44 => im_lt (v40 ^^^ v44) (fun v45 => im_st n_this_lines f34 v37 v45 (fun f46 => im_lt (v33 + (1 : Int32)) (fun v47 => (im_X5_solve_L157 x0 K31 v25 n_this_lines v10 v28 n v47 f46)))))))))))))
def im_X5_solve_L121 (i_this_checks : Int32) (K23 : (Nat → Int32) → Option (Int32 × (Nat → Int32))) (x0 : Int32) (n_this_lines : Nat) (v10 : Int32) : Nat → Int32 → (Nat → Int32) → Option (Int32 × (Nat → Int32))
  | 0, _, _ => none
  | n + 1, v25, f26 => if i_this_checks ≤ v25 then (K23 f26) else im_j1 (fun (v28 : Int32) => im_j1 (fun (f30 : Nat → Int32) => im_lt (v25 + (1 : Int32)) (fun v32 => (im_X5_solve_L121 i_this_checks K23 x0 n_this_lines v10 n v32 f30))) (fun K31 => (im_X5_solve_L157 x0 K31 v25 n_this_lines v10 v28 5000 (0 : Int32) f26))) (fun K29 => if v25 = v10 then (K29 (0 : Int32)) else im_lt ((9 : Int32) * v25) (fun v48 => im_lt (v48 + v10) (fun v49 => im_ld n_this_lines f26 v49 (fun v50 => (K29 v50)))))
def im_X5_solve_L77 (x0 : Int32) (K21 : (Nat → Int32) → Option (Int32 × (Nat → Int32))) (v10 : Int32) (n_this_lines : Nat) (v19 : Int32) : Nat → Int32 → (Nat → Int32) → Option (Int32 × (Nat → Int32))
  | 0, _, _ => none
  | n + 1, v51, f52 => if x0 < v51 then (K21 f52) else im_lt ((9 : Int32) * v10) (fun v54 => im_lt (v54 + v51) (fun v55 => im_lt ((9 : Int32) * v10) (fun v56 => im_lt (v56 + v51) (fun v57 => im_ld n_this_lines f52 v57 (fun v58 => im_b1 (im_X5_times v58 v19) (fun v59 => im_st n_this_lines f52 v55 v59 (fun f60 => im_lt (v51 + (1 : Int32)) (fun v61 => (im_X5_solve_L77 x0 K21 v10 n_this_lines v19 n v61 f60)))))))))
def im_X5_solve_L14 (i_this_checks : Int32) (K14 : Int32 → Option (Int32 × (Nat → Int32))) (v10 : Int32) (n_this_lines : Nat) (f11 : Nat → Int32) : Nat → Int32 → Option (Int32 × (Nat → Int32))
  | 0, _ => none
  | n + 1, v62 => if i_this_checks ≤ v62 then (K14 v62) else im_lt ((9 : Int32) * v62) (fun v64 => im_lt (v64 + v10) (fun v65 => im_ld n_this_lines f11 v65 (fun v66 => if v66 = 0 then im_lt (v62 + (1 : Int32)) (fun v67 => (im_X5_solve_L14 i_this_checks K14 v10 n_this_lines f11 n v67)) else (K14 v62))))
def im_X5_solve_L7 (x0 : Int32) (K3 : (Nat → Int32) → Option (Int32 × (Nat → Int32))) (i_this_checks : Int32) (n_this_lines : Nat) : Nat → Int32 → (Nat → Int32) → Option (Int32 × (Nat → Int32))
  | 0, _, _ => none
  | n + 1, v10, f11 => if x0 ≤ v10 then (K3 f11) else im_j1 (fun (v13 : Int32) => if v13 = i_this_checks then (some ((0 : Int32), f11)) else im_b1 (im_X5_exchange v13 v10 n_this_lines f11) (fun f15 => im_lt ((9 : Int32) * v10) (fun v16 => im_lt (v16 + v10) (fun v17 => im_ld n_this_lines f15 v17 (fun v18 => im_b1 (im_X5_inverse v18) (fun v19 => im_j1 (fun (f20 : Nat → Int32) => im_j1 (fun (f22 : Nat → Int32) => im_lt (v10 + (1 : Int32)) (fun v24 => (im_X5_solve_L7 x0 K3 i_this_checks n_this_lines n v24 f22))) (fun K23 => (im_X5_solve_L121 i_this_checks K23 x0 n_this_lines v10 5000 (0 : Int32) f20))) (fun K21 => (im_X5_solve_L77 x0 K21 v10 n_this_lines v19 5000 (0 : Int32) f15)))))))) (fun K14 => (im_X5_solve_L14 i_this_checks K14 v10 n_this_lines f11 5000 v10))
def im_X5_solve (x0 : Int32) (i_this_checks : Int32) (i_this_symbols : Int32) (n_this_lines : Nat) (n_this_places : Nat) (n_this_word : Nat) (f_this_lines : Nat → Int32) (f_this_places : Nat → Int32) (f_this_word : Nat → Int32) : Option (Int32 × (Nat → Int32)) := im_b1 (im_X5_write x0 i_this_checks i_this_symbols n_this_lines n_this_places n_this_word f_this_lines f_this_places f_this_word) (fun f1 => im_j1 (fun (f2 : Nat → Int32) => (im_X5_solve_L227 i_this_checks f2 x0 n_this_lines 5000 x0)) (fun K3 => (im_X5_solve_L7 x0 K3 i_this_checks n_this_lines 5000 (0 : Int32) f1)))
abbrev rm_X5_solve : Room := { frames := 4, cells := 0, slots := 0, locals := 92 }
theorem hn_X5_solve_X5 : ∀ w ∈ wsX50, w ∈ wsX5_solve := by decide +kernel
theorem fl_X5_solve_62 : Cond.fieldLink RX5 62 "BarCodesModel" "checks" "I" ∈ wsX5_solve := by decide +kernel
theorem fl_X5_solve_43 : Cond.fieldLink RX5 43 "BarCodesModel" "lines" "[I" ∈ wsX5_solve := by decide +kernel
set_option maxHeartbeats 4000000 in
set_option maxRecDepth 100000 in
theorem c_X5_solve (l : Launch) (dC : Nat → ClassId) (dI : Nat → Nat → Nat) (cI cJ cZ : ClassId) (sz : Nat) (a_this a_this_bits a_this_values a_this_has a_this_row a_this_seen a_this_told a_this_word a_this_gone a_this_lines a_this_places a_this_square : Nat) (i_this_thrown i_this_kind i_this_form i_this_fields i_this_checks i_this_symbols i_this_size i_this_many i_this_right i_this_mended i_this_mask i_this_turned : Int32) (n_this_lines n_this_places n_this_word : Nat) (f_this_lines : Nat → Int32) (f_this_places : Nat → Int32) (f_this_word : Nat → Int32) (x0 : Int32) {r : Int32 × (Nat → Int32)} (h : im_X5_solve x0 i_this_checks i_this_symbols n_this_lines n_this_places n_this_word f_this_lines f_this_places f_this_word = some r) : Met l yX5_solve wsX5_solve rm_X5_solve (va_Pc [.ref a_this, .int x0] (fun U => U.heap.size = sz ∧ va_P (dC, dI) vwCl [(a_this, .inr (4, [.int i_this_thrown, .int i_this_kind, .int i_this_form, .ref a_this_bits, .ref a_this_values, .ref a_this_has, .int i_this_fields, .int i_this_checks, .int i_this_symbols, .ref a_this_row, .int i_this_size, .ref a_this_seen, .int i_this_many, .ref a_this_told, .int i_this_right, .int i_this_mended, .int i_this_mask, .int i_this_turned, .ref a_this_word, .ref a_this_gone, .ref a_this_lines, .ref a_this_places, .ref a_this_square])), (a_this_lines, .inl (cI, n_this_lines, .inl f_this_lines)), (a_this_places, .inl (cI, n_this_places, .inl f_this_places)), (a_this_word, .inl (cI, n_this_word, .inl f_this_word))] U.heap ∧ va_K (dC, dI) vwCl [(cI, .int), (cJ, .long), (cZ, .boolean)] U ∧ va_D (fun _ => True) [(a_this, .inr (4, [.int i_this_thrown, .int i_this_kind, .int i_this_form, .ref a_this_bits, .ref a_this_values, .ref a_this_has, .int i_this_fields, .int i_this_checks, .int i_this_symbols, .ref a_this_row, .int i_this_size, .ref a_this_seen, .int i_this_many, .ref a_this_told, .int i_this_right, .int i_this_mended, .int i_this_mask, .int i_this_turned, .ref a_this_word, .ref a_this_gone, .ref a_this_lines, .ref a_this_places, .ref a_this_square])), (a_this_lines, .inl (cI, n_this_lines, .inl f_this_lines)), (a_this_places, .inl (cI, n_this_places, .inl f_this_places)), (a_this_word, .inl (cI, n_this_word, .inl f_this_word))])) (va_Qi (S := (Nat → Int32)) (fun r9 u9 => (r9, u9) = r) (fun u9 t9 => va_P (dC, dI) vwCl [(a_this, .inr (4, [.int i_this_thrown, .int i_this_kind, .int i_this_form, .ref a_this_bits, .ref a_this_values, .ref a_this_has, .int i_this_fields, .int i_this_checks, .int i_this_symbols, .ref a_this_row, .int i_this_size, .ref a_this_seen, .int i_this_many, .ref a_this_told, .int i_this_right, .int i_this_mended, .int i_this_mask, .int i_this_turned, .ref a_this_word, .ref a_this_gone, .ref a_this_lines, .ref a_this_places, .ref a_this_square])), (a_this_lines, .inl (cI, n_this_lines, .inl (u9))), (a_this_places, .inl (cI, n_this_places, .inl f_this_places)), (a_this_word, .inl (cI, n_this_word, .inl f_this_word))] t9.heap ∧ va_K (dC, dI) vwCl [(cI, .int), (cJ, .long), (cZ, .boolean)] t9 ∧ va_D (va_A [(a_this, .inr (4, [.int i_this_thrown, .int i_this_kind, .int i_this_form, .ref a_this_bits, .ref a_this_values, .ref a_this_has, .int i_this_fields, .int i_this_checks, .int i_this_symbols, .ref a_this_row, .int i_this_size, .ref a_this_seen, .int i_this_many, .ref a_this_told, .int i_this_right, .int i_this_mended, .int i_this_mask, .int i_this_turned, .ref a_this_word, .ref a_this_gone, .ref a_this_lines, .ref a_this_places, .ref a_this_square])), (a_this_lines, .inl (cI, n_this_lines, .inl f_this_lines)), (a_this_places, .inl (cI, n_this_places, .inl f_this_places)), (a_this_word, .inl (cI, n_this_word, .inl f_this_word))] sz) [(a_this, .inr (4, [.int i_this_thrown, .int i_this_kind, .int i_this_form, .ref a_this_bits, .ref a_this_values, .ref a_this_has, .int i_this_fields, .int i_this_checks, .int i_this_symbols, .ref a_this_row, .int i_this_size, .ref a_this_seen, .int i_this_many, .ref a_this_told, .int i_this_right, .int i_this_mended, .int i_this_mask, .int i_this_turned, .ref a_this_word, .ref a_this_gone, .ref a_this_lines, .ref a_this_places, .ref a_this_square])), (a_this_lines, .inl (cI, n_this_lines, .inl (u9))), (a_this_places, .inl (cI, n_this_places, .inl f_this_places)), (a_this_word, .inl (cI, n_this_word, .inl f_this_word))]) (va_A [(a_this, .inr (4, [.int i_this_thrown, .int i_this_kind, .int i_this_form, .ref a_this_bits, .ref a_this_values, .ref a_this_has, .int i_this_fields, .int i_this_checks, .int i_this_symbols, .ref a_this_row, .int i_this_size, .ref a_this_seen, .int i_this_many, .ref a_this_told, .int i_this_right, .int i_this_mended, .int i_this_mask, .int i_this_turned, .ref a_this_word, .ref a_this_gone, .ref a_this_lines, .ref a_this_places, .ref a_this_square])), (a_this_lines, .inl (cI, n_this_lines, .inl f_this_lines)), (a_this_places, .inl (cI, n_this_places, .inl f_this_places)), (a_this_word, .inl (cI, n_this_word, .inl f_this_word))] sz)) 0 0 (va_A [(a_this, .inr (4, [.int i_this_thrown, .int i_this_kind, .int i_this_form, .ref a_this_bits, .ref a_this_values, .ref a_this_has, .int i_this_fields, .int i_this_checks, .int i_this_symbols, .ref a_this_row, .int i_this_size, .ref a_this_seen, .int i_this_many, .ref a_this_told, .int i_this_right, .int i_this_mended, .int i_this_mask, .int i_this_turned, .ref a_this_word, .ref a_this_gone, .ref a_this_lines, .ref a_this_places, .ref a_this_square])), (a_this_lines, .inl (cI, n_this_lines, .inl f_this_lines)), (a_this_places, .inl (cI, n_this_places, .inl f_this_places)), (a_this_word, .inl (cI, n_this_word, .inl f_this_word))] sz) := by
  refine Met.ofW (cc := cX5_solve) (maxL := 8) (ret := (some .boolean)) (by decide) rfl ?_
  intro p e s m args below meth c s₁ B hml hv
  obtain ⟨eargs, hsz, hP, hK, hD0⟩ := hv
  have hx := B.exec
  have hb := B.bytes
  have hr := B.returns
  have hts := atoms_spec (ws := wsX5_solve) B.pre
  have hown : s.vm.findClass RX5 = some m.cls := findClass_of_methodNamed B.named
  have hlocks := B.notSynchronized
  refine im_Q (fun Q eQ => ?_)
  subst hsz
  have hD := hD0.self (sz := s.heap.size)
  generalize hAe : va_A [(a_this, .inr (4, [.int i_this_thrown, .int i_this_kind, .int i_this_form, .ref a_this_bits, .ref a_this_values, .ref a_this_has, .int i_this_fields, .int i_this_checks, .int i_this_symbols, .ref a_this_row, .int i_this_size, .ref a_this_seen, .int i_this_many, .ref a_this_told, .int i_this_right, .int i_this_mended, .int i_this_mask, .int i_this_turned, .ref a_this_word, .ref a_this_gone, .ref a_this_lines, .ref a_this_places, .ref a_this_square])), (a_this_lines, .inl (cI, n_this_lines, .inl f_this_lines)), (a_this_places, .inl (cI, n_this_places, .inl f_this_places)), (a_this_word, .inl (cI, n_this_word, .inl f_this_word))] s.heap.size = A at hD eQ
  have hA : ∀ q : Nat, s.heap.size ≤ q → A q := fun q h => by rw [← hAe]; exact Or.inr h
  have hS : va_S A s.heap s.heap [] := va_S.rf
  have hl := lv_entry [.ref a_this, .int x0] (n := 8) (Nat.le_of_ble_eq_true rfl)
  rw [show entryFrame m args 8 = entryFrame m ([.ref a_this, .int x0] : List Value).toArray 8 by rw [eargs], lg_entry_eq]
  generalize (lg_sl ([.ref a_this, .int x0]) ++ List.replicate (8 - (lg_sl ([.ref a_this, .int x0])).length) Slot.unset).toArray = ls at hl ⊢
  have hl : lv_has ls 8 [(0, .ref a_this), (1, .int x0)] := hl
  rw [im_X5_solve] at h
  refine lv_aload_n hx hb dX5_solve_0 rfl (lv_at hl 0 rfl) ?_
  refine lv_iload_n hx hb dX5_solve_1 rfl (lv_at hl 1 rfl) ?_
  obtain ⟨f1, y2, h⟩ := im_b1_u h
  have hPc := hP.sub (ws' := [(a_this, .inr (4, [.int i_this_thrown, .int i_this_kind, .int i_this_form, .ref a_this_bits, .ref a_this_values, .ref a_this_has, .int i_this_fields, .int i_this_checks, .int i_this_symbols, .ref a_this_row, .int i_this_size, .ref a_this_seen, .int i_this_many, .ref a_this_told, .int i_this_right, .int i_this_mended, .int i_this_mask, .int i_this_turned, .ref a_this_word, .ref a_this_gone, .ref a_this_lines, .ref a_this_places, .ref a_this_square])), (a_this_lines, .inl (cI, n_this_lines, .inl f_this_lines)), (a_this_places, .inl (cI, n_this_places, .inl f_this_places)), (a_this_word, .inl (cI, n_this_word, .inl f_this_word))]) [0, 1, 2, 3] rfl
  have hDc := hD.sub (ws' := [(a_this, .inr (4, [.int i_this_thrown, .int i_this_kind, .int i_this_form, .ref a_this_bits, .ref a_this_values, .ref a_this_has, .int i_this_fields, .int i_this_checks, .int i_this_symbols, .ref a_this_row, .int i_this_size, .ref a_this_seen, .int i_this_many, .ref a_this_told, .int i_this_right, .int i_this_mended, .int i_this_mask, .int i_this_turned, .ref a_this_word, .ref a_this_gone, .ref a_this_lines, .ref a_this_places, .ref a_this_square])), (a_this_lines, .inl (cI, n_this_lines, .inl f_this_lines)), (a_this_places, .inl (cI, n_this_places, .inl f_this_places)), (a_this_word, .inl (cI, n_this_word, .inl f_this_word))]) [0, 1, 2, 3] (by decide) rfl
  have hFc := va_free (wc := [(a_this, .inr (4, [.int i_this_thrown, .int i_this_kind, .int i_this_form, .ref a_this_bits, .ref a_this_values, .ref a_this_has, .int i_this_fields, .int i_this_checks, .int i_this_symbols, .ref a_this_row, .int i_this_size, .ref a_this_seen, .int i_this_many, .ref a_this_told, .int i_this_right, .int i_this_mended, .int i_this_mask, .int i_this_turned, .ref a_this_word, .ref a_this_gone, .ref a_this_lines, .ref a_this_places, .ref a_this_square])), (a_this_lines, .inl (cI, n_this_lines, .inl f_this_lines)), (a_this_places, .inl (cI, n_this_places, .inl f_this_places)), (a_this_word, .inl (cI, n_this_word, .inl f_this_word))]) hD hS hA [0, 1, 2, 3] rfl
  refine va_callv (va_runV (As := [.int x0]) (rest := []) ⟨hx, hb, hml, hown, hts⟩ (c_X5_write l dC dI cI cJ cZ s.heap.size a_this a_this_bits a_this_values a_this_has a_this_row a_this_seen a_this_told a_this_word a_this_gone a_this_lines a_this_places a_this_square i_this_thrown i_this_kind i_this_form i_this_fields i_this_checks i_this_symbols i_this_size i_this_many i_this_right i_this_mended i_this_mask i_this_turned n_this_lines n_this_places n_this_word f_this_lines f_this_places f_this_word x0 y2) (cwV 1 hts gX5_solve_X5_write rfl rfl rfl (by decide +kernel) ⟨Nat.le_of_ble_eq_true rfl, Nat.le_of_ble_eq_true rfl⟩) ⟨fun a U g mk q => by obtain ⟨q0, q1, qP, qK, qD⟩ := q; exact ⟨q0, q1, qP, va_K.moved (u := U) (U := U.calling g mk a) (Vm.Alike.refl U.vm) qK, qD⟩, va_recv hK hPc (ci := 4) (q0 := 0) rfl rfl, fun U hU hW => ⟨rfl, by rw [hU], by rw [hU]; exact hPc, va_K.moved hW.alike hK, hDc.weaken (fun _ _ _ _ => trivial)⟩⟩ rfl rfl hl.1 rfl (lv_room (Nat.le_of_ble_eq_true rfl)) dX5_solve_2 ⟨Nat.zero_le _, Nat.zero_le _⟩) hS (fun q _ h => hFc q h) hFc (fun u9 t9 H1 locs ht9 hvm9 hw9 hB9 hz9 hk9 hS => ?_)
  obtain ⟨hP1, hK1, hD1⟩ := hB9
  rw [ht9] at hP1
  have hw9 := hw9.symm
  subst hw9
  obtain ⟨hP, hD⟩ := va_join (wr := []) (w1 := [(a_this, .inr (4, [.int i_this_thrown, .int i_this_kind, .int i_this_form, .ref a_this_bits, .ref a_this_values, .ref a_this_has, .int i_this_fields, .int i_this_checks, .int i_this_symbols, .ref a_this_row, .int i_this_size, .ref a_this_seen, .int i_this_many, .ref a_this_told, .int i_this_right, .int i_this_mended, .int i_this_mask, .int i_this_turned, .ref a_this_word, .ref a_this_gone, .ref a_this_lines, .ref a_this_places, .ref a_this_square])), (a_this_lines, .inl (cI, n_this_lines, .inl f1)), (a_this_places, .inl (cI, n_this_places, .inl f_this_places)), (a_this_word, .inl (cI, n_this_word, .inl f_this_word))]) hP hD [0, 1, 2, 3] [] rfl rfl (by decide) (by decide) hk9 hFc hP1 hD1
  generalize H1 = H at hP hS ⊢
  have hP := hP.sub (ws' := [(a_this, .inr (4, [.int i_this_thrown, .int i_this_kind, .int i_this_form, .ref a_this_bits, .ref a_this_values, .ref a_this_has, .int i_this_fields, .int i_this_checks, .int i_this_symbols, .ref a_this_row, .int i_this_size, .ref a_this_seen, .int i_this_many, .ref a_this_told, .int i_this_right, .int i_this_mended, .int i_this_mask, .int i_this_turned, .ref a_this_word, .ref a_this_gone, .ref a_this_lines, .ref a_this_places, .ref a_this_square])), (a_this_lines, .inl (cI, n_this_lines, .inl f1)), (a_this_places, .inl (cI, n_this_places, .inl f_this_places)), (a_this_word, .inl (cI, n_this_word, .inl f_this_word))]) [0, 1, 2, 3] rfl
  have hD := hD.sub (ws' := [(a_this, .inr (4, [.int i_this_thrown, .int i_this_kind, .int i_this_form, .ref a_this_bits, .ref a_this_values, .ref a_this_has, .int i_this_fields, .int i_this_checks, .int i_this_symbols, .ref a_this_row, .int i_this_size, .ref a_this_seen, .int i_this_many, .ref a_this_told, .int i_this_right, .int i_this_mended, .int i_this_mask, .int i_this_turned, .ref a_this_word, .ref a_this_gone, .ref a_this_lines, .ref a_this_places, .ref a_this_square])), (a_this_lines, .inl (cI, n_this_lines, .inl f1)), (a_this_places, .inl (cI, n_this_places, .inl f_this_places)), (a_this_word, .inl (cI, n_this_word, .inl f_this_word))]) [0, 1, 2, 3] (by decide) rfl
  refine lv_iconst (v := (0 : Int32)) hx hb dX5_solve_5 (by decide) ?_
  refine lv_istore_n (lv' := [(2, .int (0 : Int32)), (0, .ref a_this), (1, .int x0)]) hx hb dX5_solve_6 rfl hl (by decide) rfl (fun ls hl => ?_)
  refine im_j1_u (P := fun f2 => ∀ (H : Heap) (locs : List Loc) (ls : Array Slot), va_P (dC, dI) vwCl [(a_this, .inr (4, [.int i_this_thrown, .int i_this_kind, .int i_this_form, .ref a_this_bits, .ref a_this_values, .ref a_this_has, .int i_this_fields, .int i_this_checks, .int i_this_symbols, .ref a_this_row, .int i_this_size, .ref a_this_seen, .int i_this_many, .ref a_this_told, .int i_this_right, .int i_this_mended, .int i_this_mask, .int i_this_turned, .ref a_this_word, .ref a_this_gone, .ref a_this_lines, .ref a_this_places, .ref a_this_square])), (a_this_lines, .inl (cI, n_this_lines, .inl f2)), (a_this_places, .inl (cI, n_this_places, .inl f_this_places)), (a_this_word, .inl (cI, n_this_word, .inl f_this_word))] H → va_D A [(a_this, .inr (4, [.int i_this_thrown, .int i_this_kind, .int i_this_form, .ref a_this_bits, .ref a_this_values, .ref a_this_has, .int i_this_fields, .int i_this_checks, .int i_this_symbols, .ref a_this_row, .int i_this_size, .ref a_this_seen, .int i_this_many, .ref a_this_told, .int i_this_right, .int i_this_mended, .int i_this_mask, .int i_this_turned, .ref a_this_word, .ref a_this_gone, .ref a_this_lines, .ref a_this_places, .ref a_this_square])), (a_this_lines, .inl (cI, n_this_lines, .inl f2)), (a_this_places, .inl (cI, n_this_places, .inl f_this_places)), (a_this_word, .inl (cI, n_this_word, .inl f_this_word))] → va_S A s.heap H locs → lv_has ls 8 [(0, .ref a_this), (1, .int x0)] → W p l e (headSpec wsX5_solve rm_X5_solve).room s m args below meth c H locs 0 0 Q (F0 m 225 ls [])) h (fun f2 h H locs ls hP hD hS hl => ?_) (fun K3 J3 h => ?_)
  · refine lv_iload_n hx hb dX5_solve_225 rfl (lv_at hl 1 rfl) ?_
    refine lv_istore_n (lv' := [(2, .int x0), (0, .ref a_this), (1, .int x0)]) hx hb dX5_solve_226 rfl hl (by decide) rfl (fun ls hl => ?_)
    have Lp5 : ∀ (n : Nat) (v4 : Int32), im_X5_solve_L227 i_this_checks f2 x0 n_this_lines n v4 = some r → ∀ (H : Heap) (locs : List Loc) (ls : Array Slot), va_P (dC, dI) vwCl [(a_this, .inr (4, [.int i_this_thrown, .int i_this_kind, .int i_this_form, .ref a_this_bits, .ref a_this_values, .ref a_this_has, .int i_this_fields, .int i_this_checks, .int i_this_symbols, .ref a_this_row, .int i_this_size, .ref a_this_seen, .int i_this_many, .ref a_this_told, .int i_this_right, .int i_this_mended, .int i_this_mask, .int i_this_turned, .ref a_this_word, .ref a_this_gone, .ref a_this_lines, .ref a_this_places, .ref a_this_square])), (a_this_lines, .inl (cI, n_this_lines, .inl f2)), (a_this_places, .inl (cI, n_this_places, .inl f_this_places)), (a_this_word, .inl (cI, n_this_word, .inl f_this_word))] H → va_D A [(a_this, .inr (4, [.int i_this_thrown, .int i_this_kind, .int i_this_form, .ref a_this_bits, .ref a_this_values, .ref a_this_has, .int i_this_fields, .int i_this_checks, .int i_this_symbols, .ref a_this_row, .int i_this_size, .ref a_this_seen, .int i_this_many, .ref a_this_told, .int i_this_right, .int i_this_mended, .int i_this_mask, .int i_this_turned, .ref a_this_word, .ref a_this_gone, .ref a_this_lines, .ref a_this_places, .ref a_this_square])), (a_this_lines, .inl (cI, n_this_lines, .inl f2)), (a_this_places, .inl (cI, n_this_places, .inl f_this_places)), (a_this_word, .inl (cI, n_this_word, .inl f_this_word))] → va_S A s.heap H locs → lv_has ls 8 [(0, .ref a_this), (1, .int x0), (2, .int v4)] → W p l e (headSpec wsX5_solve rm_X5_solve).room s m args below meth c H locs 0 0 Q (F0 m 227 ls []) := by
      intro n
      induction n with
      | zero => intro v4 h; rw [im_X5_solve_L227] at h; cases h
      | succ n ih =>
        intro v4 h H locs ls hP hD hS hl
        rw [im_X5_solve_L227] at h
        refine lv_iload_n hx hb dX5_solve_227 rfl (lv_at hl 2 rfl) ?_
        refine lv_aload_n hx hb dX5_solve_228 rfl (lv_at hl 0 rfl) ?_
        refine va_get (D := (dC, dI)) (ci := 4) (v := .int i_this_checks) (C := RX5) (T := TX5) (N := 23) hx hb hts hn_X5_solve_X5 hown hK hP 0 rfl rfl 7 (by decide) (hts _ fl_X5_solve_62) (fun _ h9 => h9) rfl dX5_solve_229 ?_
        refine lv_icmp_ge (tgt := 257) hx hb dX5_solve_232 (by decide) (fun c232 => ?_) (fun c232 => ?_)
        · replace h := im_t c232 h
          refine lv_iconst (v := (1 : Int32)) hx hb dX5_solve_257 (by decide) ?_
          rw [eQ]
          exact W.zret (ty := .boolean) (v := (1 : Int32)) hx hb hr rfl (fun t ht hW => ⟨⟨_, f2, rfl, Option.some.inj h, by rw [ht]; exact hP, va_K.moved hW.alike hK, hD⟩, hS.F ht⟩) hS.2.2 dX5_solve_258
        · replace h := im_f c232 h
          refine lv_aload_n hx hb dX5_solve_235 rfl (lv_at hl 0 rfl) ?_
          refine va_get (D := (dC, dI)) (ci := 4) (v := .ref a_this_lines) (C := RX5) (T := TX5) (N := 23) hx hb hts hn_X5_solve_X5 hown hK hP 0 rfl rfl 20 (by decide) (hts _ fl_X5_solve_43) (fun _ h9 => h9) rfl dX5_solve_236 ?_
          refine lv_bipush (v := (9 : Int32)) hx hb dX5_solve_239 (by decide) ?_
          refine lv_iload_n hx hb dX5_solve_241 rfl (lv_at hl 2 rfl) ?_
          refine lv_imul hx hb dX5_solve_242 ?_
          refine lv_topi (fun v6 ev6 => ?_)
          replace h := im_lt_u h v6 ev6
          refine lv_iload_n hx hb dX5_solve_243 rfl (lv_at hl 1 rfl) ?_
          refine lv_iadd hx hb dX5_solve_244 ?_
          refine lv_topi (fun v7 ev7 => ?_)
          replace h := im_lt_u h v7 ev7
          obtain ⟨q245, h⟩ := im_ld_u h
          refine va_iald hx hb hK hP 1 0 rfl rfl q245 dX5_solve_245 ?_
          refine lv_topi (fun v8 ev8 => ?_)
          replace h := h v8 ev8
          refine lv_if_eq (tgt := 251) hx hb dX5_solve_246 (by decide) (fun c246 => ?_) (fun c246 => ?_)
          · replace h := im_t c246 h
            obtain ⟨v9, ev9⟩ : ∃ y : Int32, y = (v4 + (1 : Int32)) := ⟨_, rfl⟩
            replace h := im_lt_u h v9 ev9
            refine lv_iinc (v := v9) (lv' := [(2, .int v9), (0, .ref a_this), (1, .int x0)]) hx hb dX5_solve_251 hl (k := 2) rfl (by rw [ev9]; rfl) (by decide) rfl (fun ls hl => ?_)
            refine lv_goto (tgt := 227) hx hb dX5_solve_254 (by decide) ?_
            exact ih v9 h _ _ _ hP hD hS (lv_sub hl [1, 2, 0] rfl)
          · replace h := im_f c246 h
            refine lv_iconst (v := (0 : Int32)) hx hb dX5_solve_249 (by decide) ?_
            rw [eQ]
            exact W.zret (ty := .boolean) (v := (0 : Int32)) hx hb hr rfl (fun t ht hW => ⟨⟨_, f2, rfl, Option.some.inj h, by rw [ht]; exact hP, va_K.moved hW.alike hK, hD⟩, hS.F ht⟩) hS.2.2 dX5_solve_250
    exact Lp5 5000 x0 h _ _ _ hP hD hS (lv_sub hl [1, 2, 0] rfl)
  · have Lp12 : ∀ (n : Nat) (v10 : Int32) (f11 : Nat → Int32), im_X5_solve_L7 x0 K3 i_this_checks n_this_lines n v10 f11 = some r → ∀ (H : Heap) (locs : List Loc) (ls : Array Slot), va_P (dC, dI) vwCl [(a_this, .inr (4, [.int i_this_thrown, .int i_this_kind, .int i_this_form, .ref a_this_bits, .ref a_this_values, .ref a_this_has, .int i_this_fields, .int i_this_checks, .int i_this_symbols, .ref a_this_row, .int i_this_size, .ref a_this_seen, .int i_this_many, .ref a_this_told, .int i_this_right, .int i_this_mended, .int i_this_mask, .int i_this_turned, .ref a_this_word, .ref a_this_gone, .ref a_this_lines, .ref a_this_places, .ref a_this_square])), (a_this_lines, .inl (cI, n_this_lines, .inl f11)), (a_this_places, .inl (cI, n_this_places, .inl f_this_places)), (a_this_word, .inl (cI, n_this_word, .inl f_this_word))] H → va_D A [(a_this, .inr (4, [.int i_this_thrown, .int i_this_kind, .int i_this_form, .ref a_this_bits, .ref a_this_values, .ref a_this_has, .int i_this_fields, .int i_this_checks, .int i_this_symbols, .ref a_this_row, .int i_this_size, .ref a_this_seen, .int i_this_many, .ref a_this_told, .int i_this_right, .int i_this_mended, .int i_this_mask, .int i_this_turned, .ref a_this_word, .ref a_this_gone, .ref a_this_lines, .ref a_this_places, .ref a_this_square])), (a_this_lines, .inl (cI, n_this_lines, .inl f11)), (a_this_places, .inl (cI, n_this_places, .inl f_this_places)), (a_this_word, .inl (cI, n_this_word, .inl f_this_word))] → va_S A s.heap H locs → lv_has ls 8 [(0, .ref a_this), (1, .int x0), (2, .int v10)] → W p l e (headSpec wsX5_solve rm_X5_solve).room s m args below meth c H locs 0 0 Q (F0 m 7 ls []) := by
      intro n
      induction n with
      | zero => intro v10 f11 h; rw [im_X5_solve_L7] at h; cases h
      | succ n ih =>
        intro v10 f11 h H locs ls hP hD hS hl
        rw [im_X5_solve_L7] at h
        refine lv_iload_n hx hb dX5_solve_7 rfl (lv_at hl 2 rfl) ?_
        refine lv_iload_n hx hb dX5_solve_8 rfl (lv_at hl 1 rfl) ?_
        refine lv_icmp_ge (tgt := 225) hx hb dX5_solve_9 (by decide) (fun c9 => ?_) (fun c9 => ?_)
        · replace h := im_t c9 h
          exact J3 f11 h _ _ _ hP hD hS (lv_sub hl [0, 1] rfl)
        · replace h := im_f c9 h
          refine lv_iload_n hx hb dX5_solve_12 rfl (lv_at hl 2 rfl) ?_
          refine lv_istore_n (lv' := [(3, .int v10), (0, .ref a_this), (1, .int x0), (2, .int v10)]) hx hb dX5_solve_13 rfl hl (by decide) rfl (fun ls hl => ?_)
          refine im_j1_u (P := fun v13 => ∀ (H : Heap) (locs : List Loc) (ls : Array Slot), va_P (dC, dI) vwCl [(a_this, .inr (4, [.int i_this_thrown, .int i_this_kind, .int i_this_form, .ref a_this_bits, .ref a_this_values, .ref a_this_has, .int i_this_fields, .int i_this_checks, .int i_this_symbols, .ref a_this_row, .int i_this_size, .ref a_this_seen, .int i_this_many, .ref a_this_told, .int i_this_right, .int i_this_mended, .int i_this_mask, .int i_this_turned, .ref a_this_word, .ref a_this_gone, .ref a_this_lines, .ref a_this_places, .ref a_this_square])), (a_this_lines, .inl (cI, n_this_lines, .inl f11)), (a_this_places, .inl (cI, n_this_places, .inl f_this_places)), (a_this_word, .inl (cI, n_this_word, .inl f_this_word))] H → va_D A [(a_this, .inr (4, [.int i_this_thrown, .int i_this_kind, .int i_this_form, .ref a_this_bits, .ref a_this_values, .ref a_this_has, .int i_this_fields, .int i_this_checks, .int i_this_symbols, .ref a_this_row, .int i_this_size, .ref a_this_seen, .int i_this_many, .ref a_this_told, .int i_this_right, .int i_this_mended, .int i_this_mask, .int i_this_turned, .ref a_this_word, .ref a_this_gone, .ref a_this_lines, .ref a_this_places, .ref a_this_square])), (a_this_lines, .inl (cI, n_this_lines, .inl f11)), (a_this_places, .inl (cI, n_this_places, .inl f_this_places)), (a_this_word, .inl (cI, n_this_word, .inl f_this_word))] → va_S A s.heap H locs → lv_has ls 8 [(0, .ref a_this), (1, .int x0), (2, .int v10), (3, .int v13)] → W p l e (headSpec wsX5_solve rm_X5_solve).room s m args below meth c H locs 0 0 Q (F0 m 42 ls [])) h (fun v13 h H locs ls hP hD hS hl => ?_) (fun K14 J14 h => ?_)
          · refine lv_iload_n hx hb dX5_solve_42 rfl (lv_at hl 3 rfl) ?_
            refine lv_aload_n hx hb dX5_solve_43 rfl (lv_at hl 0 rfl) ?_
            refine va_get (D := (dC, dI)) (ci := 4) (v := .int i_this_checks) (C := RX5) (T := TX5) (N := 23) hx hb hts hn_X5_solve_X5 hown hK hP 0 rfl rfl 7 (by decide) (hts _ fl_X5_solve_62) (fun _ h9 => h9) rfl dX5_solve_44 ?_
            refine lv_icmp_ne (tgt := 52) hx hb dX5_solve_47 (by decide) (fun c47 => ?_) (fun c47 => ?_)
            · replace h := im_f c47 h
              refine lv_aload_n hx hb dX5_solve_52 rfl (lv_at hl 0 rfl) ?_
              refine lv_iload_n hx hb dX5_solve_53 rfl (lv_at hl 3 rfl) ?_
              refine lv_iload_n hx hb dX5_solve_54 rfl (lv_at hl 2 rfl) ?_
              obtain ⟨f15, y55, h⟩ := im_b1_u h
              have hPc := hP.sub (ws' := [(a_this, .inr (4, [.int i_this_thrown, .int i_this_kind, .int i_this_form, .ref a_this_bits, .ref a_this_values, .ref a_this_has, .int i_this_fields, .int i_this_checks, .int i_this_symbols, .ref a_this_row, .int i_this_size, .ref a_this_seen, .int i_this_many, .ref a_this_told, .int i_this_right, .int i_this_mended, .int i_this_mask, .int i_this_turned, .ref a_this_word, .ref a_this_gone, .ref a_this_lines, .ref a_this_places, .ref a_this_square])), (a_this_lines, .inl (cI, n_this_lines, .inl f11))]) [0, 1] rfl
              have hDc := hD.sub (ws' := [(a_this, .inr (4, [.int i_this_thrown, .int i_this_kind, .int i_this_form, .ref a_this_bits, .ref a_this_values, .ref a_this_has, .int i_this_fields, .int i_this_checks, .int i_this_symbols, .ref a_this_row, .int i_this_size, .ref a_this_seen, .int i_this_many, .ref a_this_told, .int i_this_right, .int i_this_mended, .int i_this_mask, .int i_this_turned, .ref a_this_word, .ref a_this_gone, .ref a_this_lines, .ref a_this_places, .ref a_this_square])), (a_this_lines, .inl (cI, n_this_lines, .inl f11))]) [0, 1] (by decide) rfl
              have hFc := va_free (wc := [(a_this, .inr (4, [.int i_this_thrown, .int i_this_kind, .int i_this_form, .ref a_this_bits, .ref a_this_values, .ref a_this_has, .int i_this_fields, .int i_this_checks, .int i_this_symbols, .ref a_this_row, .int i_this_size, .ref a_this_seen, .int i_this_many, .ref a_this_told, .int i_this_right, .int i_this_mended, .int i_this_mask, .int i_this_turned, .ref a_this_word, .ref a_this_gone, .ref a_this_lines, .ref a_this_places, .ref a_this_square])), (a_this_lines, .inl (cI, n_this_lines, .inl f11))]) hD hS hA [0, 1] rfl
              refine va_callv (va_runV (As := [.int v13, .int v10]) (rest := []) ⟨hx, hb, hml, hown, hts⟩ (c_X5_exchange l dC dI cI cJ cZ H.size a_this a_this_bits a_this_values a_this_has a_this_row a_this_seen a_this_told a_this_word a_this_gone a_this_lines a_this_places a_this_square i_this_thrown i_this_kind i_this_form i_this_fields i_this_checks i_this_symbols i_this_size i_this_many i_this_right i_this_mended i_this_mask i_this_turned n_this_lines f11 v13 v10 y55) (cwV 2 hts gX5_solve_X5_exchange rfl rfl rfl (by decide +kernel) ⟨Nat.le_of_ble_eq_true rfl, Nat.le_of_ble_eq_true rfl⟩) ⟨fun a U g mk q => by obtain ⟨q0, q1, qP, qK, qD⟩ := q; exact ⟨q0, q1, qP, va_K.moved (u := U) (U := U.calling g mk a) (Vm.Alike.refl U.vm) qK, qD⟩, va_recv hK hPc (ci := 4) (q0 := 0) rfl rfl, fun U hU hW => ⟨rfl, by rw [hU], by rw [hU]; exact hPc, va_K.moved hW.alike hK, hDc.weaken (fun _ _ _ _ => trivial)⟩⟩ rfl rfl hl.1 rfl (lv_room (Nat.le_of_ble_eq_true rfl)) dX5_solve_55 ⟨Nat.zero_le _, Nat.zero_le _⟩) hS (fun q _ h => hFc q h) hFc (fun u9 t9 H1 locs ht9 hvm9 hw9 hB9 hz9 hk9 hS => ?_)
              obtain ⟨hP1, hK1, hD1⟩ := hB9
              rw [ht9] at hP1
              have hw9 := hw9.symm
              subst hw9
              obtain ⟨hP, hD⟩ := va_join (wr := [(a_this_places, .inl (cI, n_this_places, .inl f_this_places)), (a_this_word, .inl (cI, n_this_word, .inl f_this_word))]) (w1 := [(a_this, .inr (4, [.int i_this_thrown, .int i_this_kind, .int i_this_form, .ref a_this_bits, .ref a_this_values, .ref a_this_has, .int i_this_fields, .int i_this_checks, .int i_this_symbols, .ref a_this_row, .int i_this_size, .ref a_this_seen, .int i_this_many, .ref a_this_told, .int i_this_right, .int i_this_mended, .int i_this_mask, .int i_this_turned, .ref a_this_word, .ref a_this_gone, .ref a_this_lines, .ref a_this_places, .ref a_this_square])), (a_this_lines, .inl (cI, n_this_lines, .inl f15))]) hP hD [0, 1] [2, 3] rfl rfl (by decide) (by decide) hk9 hFc hP1 hD1
              generalize H1 = H at hP hS ⊢
              have hP := hP.sub (ws' := [(a_this, .inr (4, [.int i_this_thrown, .int i_this_kind, .int i_this_form, .ref a_this_bits, .ref a_this_values, .ref a_this_has, .int i_this_fields, .int i_this_checks, .int i_this_symbols, .ref a_this_row, .int i_this_size, .ref a_this_seen, .int i_this_many, .ref a_this_told, .int i_this_right, .int i_this_mended, .int i_this_mask, .int i_this_turned, .ref a_this_word, .ref a_this_gone, .ref a_this_lines, .ref a_this_places, .ref a_this_square])), (a_this_lines, .inl (cI, n_this_lines, .inl f15)), (a_this_places, .inl (cI, n_this_places, .inl f_this_places)), (a_this_word, .inl (cI, n_this_word, .inl f_this_word))]) [2, 3, 0, 1] rfl
              have hD := hD.sub (ws' := [(a_this, .inr (4, [.int i_this_thrown, .int i_this_kind, .int i_this_form, .ref a_this_bits, .ref a_this_values, .ref a_this_has, .int i_this_fields, .int i_this_checks, .int i_this_symbols, .ref a_this_row, .int i_this_size, .ref a_this_seen, .int i_this_many, .ref a_this_told, .int i_this_right, .int i_this_mended, .int i_this_mask, .int i_this_turned, .ref a_this_word, .ref a_this_gone, .ref a_this_lines, .ref a_this_places, .ref a_this_square])), (a_this_lines, .inl (cI, n_this_lines, .inl f15)), (a_this_places, .inl (cI, n_this_places, .inl f_this_places)), (a_this_word, .inl (cI, n_this_word, .inl f_this_word))]) [2, 3, 0, 1] (by decide) rfl
              refine lv_aload_n hx hb dX5_solve_58 rfl (lv_at hl 0 rfl) ?_
              refine va_get (D := (dC, dI)) (ci := 4) (v := .ref a_this_lines) (C := RX5) (T := TX5) (N := 23) hx hb hts hn_X5_solve_X5 hown hK hP 0 rfl rfl 20 (by decide) (hts _ fl_X5_solve_43) (fun _ h9 => h9) rfl dX5_solve_59 ?_
              refine lv_bipush (v := (9 : Int32)) hx hb dX5_solve_62 (by decide) ?_
              refine lv_iload_n hx hb dX5_solve_64 rfl (lv_at hl 2 rfl) ?_
              refine lv_imul hx hb dX5_solve_65 ?_
              refine lv_topi (fun v16 ev16 => ?_)
              replace h := im_lt_u h v16 ev16
              refine lv_iload_n hx hb dX5_solve_66 rfl (lv_at hl 2 rfl) ?_
              refine lv_iadd hx hb dX5_solve_67 ?_
              refine lv_topi (fun v17 ev17 => ?_)
              replace h := im_lt_u h v17 ev17
              obtain ⟨q68, h⟩ := im_ld_u h
              refine va_iald hx hb hK hP 1 0 rfl rfl q68 dX5_solve_68 ?_
              refine lv_topi (fun v18 ev18 => ?_)
              replace h := h v18 ev18
              obtain ⟨v19, y69, h⟩ := im_b1_u h
              refine vp_callSi (W.runS (As := [.int v18]) (rest := []) ⟨hx, hb, hml, hown, hts⟩ (c_X5_inverse l v18 y69) (va_cwS 1 hts gX5_solve_X5_inverse rfl rfl rfl (by decide +kernel) ⟨Nat.le_of_ble_eq_true rfl, Nat.le_of_ble_eq_true rfl⟩) ⟨fun _ _ _ _ q => q, fun U hU hW => ⟨rfl, trivial⟩⟩ rfl rfl hl.1 rfl (lv_room (Nat.le_of_ble_eq_true rfl)) dX5_solve_69 ⟨Nat.zero_le _, Nat.zero_le _⟩) (fun w69 ew69 => ?_)
              have ew69 := ew69.symm
              subst ew69
              refine lv_istore (lv' := [(4, .int v19), (0, .ref a_this), (1, .int x0), (2, .int v10), (3, .int v13)]) hx hb dX5_solve_72 hl (by decide) rfl (fun ls hl => ?_)
              refine lv_iconst (v := (0 : Int32)) hx hb dX5_solve_74 (by decide) ?_
              refine lv_istore (lv' := [(5, .int (0 : Int32)), (4, .int v19), (0, .ref a_this), (1, .int x0), (2, .int v10), (3, .int v13)]) hx hb dX5_solve_75 hl (by decide) rfl (fun ls hl => ?_)
              refine im_j1_u (P := fun f20 => ∀ (H : Heap) (locs : List Loc) (ls : Array Slot), va_P (dC, dI) vwCl [(a_this, .inr (4, [.int i_this_thrown, .int i_this_kind, .int i_this_form, .ref a_this_bits, .ref a_this_values, .ref a_this_has, .int i_this_fields, .int i_this_checks, .int i_this_symbols, .ref a_this_row, .int i_this_size, .ref a_this_seen, .int i_this_many, .ref a_this_told, .int i_this_right, .int i_this_mended, .int i_this_mask, .int i_this_turned, .ref a_this_word, .ref a_this_gone, .ref a_this_lines, .ref a_this_places, .ref a_this_square])), (a_this_lines, .inl (cI, n_this_lines, .inl f20)), (a_this_places, .inl (cI, n_this_places, .inl f_this_places)), (a_this_word, .inl (cI, n_this_word, .inl f_this_word))] H → va_D A [(a_this, .inr (4, [.int i_this_thrown, .int i_this_kind, .int i_this_form, .ref a_this_bits, .ref a_this_values, .ref a_this_has, .int i_this_fields, .int i_this_checks, .int i_this_symbols, .ref a_this_row, .int i_this_size, .ref a_this_seen, .int i_this_many, .ref a_this_told, .int i_this_right, .int i_this_mended, .int i_this_mask, .int i_this_turned, .ref a_this_word, .ref a_this_gone, .ref a_this_lines, .ref a_this_places, .ref a_this_square])), (a_this_lines, .inl (cI, n_this_lines, .inl f20)), (a_this_places, .inl (cI, n_this_places, .inl f_this_places)), (a_this_word, .inl (cI, n_this_word, .inl f_this_word))] → va_S A s.heap H locs → lv_has ls 8 [(0, .ref a_this), (1, .int x0), (2, .int v10)] → W p l e (headSpec wsX5_solve rm_X5_solve).room s m args below meth c H locs 0 0 Q (F0 m 118 ls [])) h (fun f20 h H locs ls hP hD hS hl => ?_) (fun K21 J21 h => ?_)
              · refine lv_iconst (v := (0 : Int32)) hx hb dX5_solve_118 (by decide) ?_
                refine lv_istore (lv' := [(5, .int (0 : Int32)), (0, .ref a_this), (1, .int x0), (2, .int v10)]) hx hb dX5_solve_119 hl (by decide) rfl (fun ls hl => ?_)
                refine im_j1_u (P := fun f22 => ∀ (H : Heap) (locs : List Loc) (ls : Array Slot), va_P (dC, dI) vwCl [(a_this, .inr (4, [.int i_this_thrown, .int i_this_kind, .int i_this_form, .ref a_this_bits, .ref a_this_values, .ref a_this_has, .int i_this_fields, .int i_this_checks, .int i_this_symbols, .ref a_this_row, .int i_this_size, .ref a_this_seen, .int i_this_many, .ref a_this_told, .int i_this_right, .int i_this_mended, .int i_this_mask, .int i_this_turned, .ref a_this_word, .ref a_this_gone, .ref a_this_lines, .ref a_this_places, .ref a_this_square])), (a_this_lines, .inl (cI, n_this_lines, .inl f22)), (a_this_places, .inl (cI, n_this_places, .inl f_this_places)), (a_this_word, .inl (cI, n_this_word, .inl f_this_word))] H → va_D A [(a_this, .inr (4, [.int i_this_thrown, .int i_this_kind, .int i_this_form, .ref a_this_bits, .ref a_this_values, .ref a_this_has, .int i_this_fields, .int i_this_checks, .int i_this_symbols, .ref a_this_row, .int i_this_size, .ref a_this_seen, .int i_this_many, .ref a_this_told, .int i_this_right, .int i_this_mended, .int i_this_mask, .int i_this_turned, .ref a_this_word, .ref a_this_gone, .ref a_this_lines, .ref a_this_places, .ref a_this_square])), (a_this_lines, .inl (cI, n_this_lines, .inl f22)), (a_this_places, .inl (cI, n_this_places, .inl f_this_places)), (a_this_word, .inl (cI, n_this_word, .inl f_this_word))] → va_S A s.heap H locs → lv_has ls 8 [(0, .ref a_this), (1, .int x0), (2, .int v10)] → W p l e (headSpec wsX5_solve rm_X5_solve).room s m args below meth c H locs 0 0 Q (F0 m 219 ls [])) h (fun f22 h H locs ls hP hD hS hl => ?_) (fun K23 J23 h => ?_)
                · obtain ⟨v24, ev24⟩ : ∃ y : Int32, y = (v10 + (1 : Int32)) := ⟨_, rfl⟩
                  replace h := im_lt_u h v24 ev24
                  refine lv_iinc (v := v24) (lv' := [(2, .int v24), (0, .ref a_this), (1, .int x0)]) hx hb dX5_solve_219 hl (k := 2) rfl (by rw [ev24]; rfl) (by decide) rfl (fun ls hl => ?_)
                  refine lv_goto (tgt := 7) hx hb dX5_solve_222 (by decide) ?_
                  exact ih v24 f22 h _ _ _ hP hD hS (lv_sub hl [1, 2, 0] rfl)
                · have Lp27 : ∀ (n : Nat) (v25 : Int32) (f26 : Nat → Int32), im_X5_solve_L121 i_this_checks K23 x0 n_this_lines v10 n v25 f26 = some r → ∀ (H : Heap) (locs : List Loc) (ls : Array Slot), va_P (dC, dI) vwCl [(a_this, .inr (4, [.int i_this_thrown, .int i_this_kind, .int i_this_form, .ref a_this_bits, .ref a_this_values, .ref a_this_has, .int i_this_fields, .int i_this_checks, .int i_this_symbols, .ref a_this_row, .int i_this_size, .ref a_this_seen, .int i_this_many, .ref a_this_told, .int i_this_right, .int i_this_mended, .int i_this_mask, .int i_this_turned, .ref a_this_word, .ref a_this_gone, .ref a_this_lines, .ref a_this_places, .ref a_this_square])), (a_this_lines, .inl (cI, n_this_lines, .inl f26)), (a_this_places, .inl (cI, n_this_places, .inl f_this_places)), (a_this_word, .inl (cI, n_this_word, .inl f_this_word))] H → va_D A [(a_this, .inr (4, [.int i_this_thrown, .int i_this_kind, .int i_this_form, .ref a_this_bits, .ref a_this_values, .ref a_this_has, .int i_this_fields, .int i_this_checks, .int i_this_symbols, .ref a_this_row, .int i_this_size, .ref a_this_seen, .int i_this_many, .ref a_this_told, .int i_this_right, .int i_this_mended, .int i_this_mask, .int i_this_turned, .ref a_this_word, .ref a_this_gone, .ref a_this_lines, .ref a_this_places, .ref a_this_square])), (a_this_lines, .inl (cI, n_this_lines, .inl f26)), (a_this_places, .inl (cI, n_this_places, .inl f_this_places)), (a_this_word, .inl (cI, n_this_word, .inl f_this_word))] → va_S A s.heap H locs → lv_has ls 8 [(0, .ref a_this), (1, .int x0), (2, .int v10), (5, .int v25)] → W p l e (headSpec wsX5_solve rm_X5_solve).room s m args below meth c H locs 0 0 Q (F0 m 121 ls []) := by
                    intro n
                    induction n with
                    | zero => intro v25 f26 h; rw [im_X5_solve_L121] at h; cases h
                    | succ n ih =>
                      intro v25 f26 h H locs ls hP hD hS hl
                      rw [im_X5_solve_L121] at h
                      refine lv_iload hx hb dX5_solve_121 (lv_at hl 3 rfl) ?_
                      refine lv_aload_n hx hb dX5_solve_123 rfl (lv_at hl 0 rfl) ?_
                      refine va_get (D := (dC, dI)) (ci := 4) (v := .int i_this_checks) (C := RX5) (T := TX5) (N := 23) hx hb hts hn_X5_solve_X5 hown hK hP 0 rfl rfl 7 (by decide) (hts _ fl_X5_solve_62) (fun _ h9 => h9) rfl dX5_solve_124 ?_
                      refine lv_icmp_ge (tgt := 219) hx hb dX5_solve_127 (by decide) (fun c127 => ?_) (fun c127 => ?_)
                      · replace h := im_t c127 h
                        exact J23 f26 h _ _ _ hP hD hS (lv_sub hl [0, 1, 2] rfl)
                      · replace h := im_f c127 h
                        refine im_j1_u (P := fun v28 => ∀ (H : Heap) (locs : List Loc) (ls : Array Slot), va_P (dC, dI) vwCl [(a_this, .inr (4, [.int i_this_thrown, .int i_this_kind, .int i_this_form, .ref a_this_bits, .ref a_this_values, .ref a_this_has, .int i_this_fields, .int i_this_checks, .int i_this_symbols, .ref a_this_row, .int i_this_size, .ref a_this_seen, .int i_this_many, .ref a_this_told, .int i_this_right, .int i_this_mended, .int i_this_mask, .int i_this_turned, .ref a_this_word, .ref a_this_gone, .ref a_this_lines, .ref a_this_places, .ref a_this_square])), (a_this_lines, .inl (cI, n_this_lines, .inl f26)), (a_this_places, .inl (cI, n_this_places, .inl f_this_places)), (a_this_word, .inl (cI, n_this_word, .inl f_this_word))] H → va_D A [(a_this, .inr (4, [.int i_this_thrown, .int i_this_kind, .int i_this_form, .ref a_this_bits, .ref a_this_values, .ref a_this_has, .int i_this_fields, .int i_this_checks, .int i_this_symbols, .ref a_this_row, .int i_this_size, .ref a_this_seen, .int i_this_many, .ref a_this_told, .int i_this_right, .int i_this_mended, .int i_this_mask, .int i_this_turned, .ref a_this_word, .ref a_this_gone, .ref a_this_lines, .ref a_this_places, .ref a_this_square])), (a_this_lines, .inl (cI, n_this_lines, .inl f26)), (a_this_places, .inl (cI, n_this_places, .inl f_this_places)), (a_this_word, .inl (cI, n_this_word, .inl f_this_word))] → va_S A s.heap H locs → lv_has ls 8 [(0, .ref a_this), (1, .int x0), (2, .int v10), (5, .int v25)] → W p l e (headSpec wsX5_solve rm_X5_solve).room s m args below meth c H locs 0 0 Q (F0 m 152 ls [.int v28])) h (fun v28 h H locs ls hP hD hS hl => ?_) (fun K29 J29 h => ?_)
                        · refine lv_istore (lv' := [(6, .int v28), (0, .ref a_this), (1, .int x0), (2, .int v10), (5, .int v25)]) hx hb dX5_solve_152 hl (by decide) rfl (fun ls hl => ?_)
                          refine lv_iconst (v := (0 : Int32)) hx hb dX5_solve_154 (by decide) ?_
                          refine lv_istore (lv' := [(7, .int (0 : Int32)), (6, .int v28), (0, .ref a_this), (1, .int x0), (2, .int v10), (5, .int v25)]) hx hb dX5_solve_155 hl (by decide) rfl (fun ls hl => ?_)
                          refine im_j1_u (P := fun f30 => ∀ (H : Heap) (locs : List Loc) (ls : Array Slot), va_P (dC, dI) vwCl [(a_this, .inr (4, [.int i_this_thrown, .int i_this_kind, .int i_this_form, .ref a_this_bits, .ref a_this_values, .ref a_this_has, .int i_this_fields, .int i_this_checks, .int i_this_symbols, .ref a_this_row, .int i_this_size, .ref a_this_seen, .int i_this_many, .ref a_this_told, .int i_this_right, .int i_this_mended, .int i_this_mask, .int i_this_turned, .ref a_this_word, .ref a_this_gone, .ref a_this_lines, .ref a_this_places, .ref a_this_square])), (a_this_lines, .inl (cI, n_this_lines, .inl f30)), (a_this_places, .inl (cI, n_this_places, .inl f_this_places)), (a_this_word, .inl (cI, n_this_word, .inl f_this_word))] H → va_D A [(a_this, .inr (4, [.int i_this_thrown, .int i_this_kind, .int i_this_form, .ref a_this_bits, .ref a_this_values, .ref a_this_has, .int i_this_fields, .int i_this_checks, .int i_this_symbols, .ref a_this_row, .int i_this_size, .ref a_this_seen, .int i_this_many, .ref a_this_told, .int i_this_right, .int i_this_mended, .int i_this_mask, .int i_this_turned, .ref a_this_word, .ref a_this_gone, .ref a_this_lines, .ref a_this_places, .ref a_this_square])), (a_this_lines, .inl (cI, n_this_lines, .inl f30)), (a_this_places, .inl (cI, n_this_places, .inl f_this_places)), (a_this_word, .inl (cI, n_this_word, .inl f_this_word))] → va_S A s.heap H locs → lv_has ls 8 [(0, .ref a_this), (1, .int x0), (2, .int v10), (5, .int v25)] → W p l e (headSpec wsX5_solve rm_X5_solve).room s m args below meth c H locs 0 0 Q (F0 m 213 ls [])) h (fun f30 h H locs ls hP hD hS hl => ?_) (fun K31 J31 h => ?_)
                          · obtain ⟨v32, ev32⟩ : ∃ y : Int32, y = (v25 + (1 : Int32)) := ⟨_, rfl⟩
                            replace h := im_lt_u h v32 ev32
                            refine lv_iinc (v := v32) (lv' := [(5, .int v32), (0, .ref a_this), (1, .int x0), (2, .int v10)]) hx hb dX5_solve_213 hl (k := 3) rfl (by rw [ev32]; rfl) (by decide) rfl (fun ls hl => ?_)
                            refine lv_goto (tgt := 121) hx hb dX5_solve_216 (by decide) ?_
                            exact ih v32 f30 h _ _ _ hP hD hS (lv_sub hl [1, 2, 3, 0] rfl)
                          · have Lp35 : ∀ (n : Nat) (v33 : Int32) (f34 : Nat → Int32), im_X5_solve_L157 x0 K31 v25 n_this_lines v10 v28 n v33 f34 = some r → ∀ (H : Heap) (locs : List Loc) (ls : Array Slot), va_P (dC, dI) vwCl [(a_this, .inr (4, [.int i_this_thrown, .int i_this_kind, .int i_this_form, .ref a_this_bits, .ref a_this_values, .ref a_this_has, .int i_this_fields, .int i_this_checks, .int i_this_symbols, .ref a_this_row, .int i_this_size, .ref a_this_seen, .int i_this_many, .ref a_this_told, .int i_this_right, .int i_this_mended, .int i_this_mask, .int i_this_turned, .ref a_this_word, .ref a_this_gone, .ref a_this_lines, .ref a_this_places, .ref a_this_square])), (a_this_lines, .inl (cI, n_this_lines, .inl f34)), (a_this_places, .inl (cI, n_this_places, .inl f_this_places)), (a_this_word, .inl (cI, n_this_word, .inl f_this_word))] H → va_D A [(a_this, .inr (4, [.int i_this_thrown, .int i_this_kind, .int i_this_form, .ref a_this_bits, .ref a_this_values, .ref a_this_has, .int i_this_fields, .int i_this_checks, .int i_this_symbols, .ref a_this_row, .int i_this_size, .ref a_this_seen, .int i_this_many, .ref a_this_told, .int i_this_right, .int i_this_mended, .int i_this_mask, .int i_this_turned, .ref a_this_word, .ref a_this_gone, .ref a_this_lines, .ref a_this_places, .ref a_this_square])), (a_this_lines, .inl (cI, n_this_lines, .inl f34)), (a_this_places, .inl (cI, n_this_places, .inl f_this_places)), (a_this_word, .inl (cI, n_this_word, .inl f_this_word))] → va_S A s.heap H locs → lv_has ls 8 [(0, .ref a_this), (1, .int x0), (2, .int v10), (5, .int v25), (6, .int v28), (7, .int v33)] → W p l e (headSpec wsX5_solve rm_X5_solve).room s m args below meth c H locs 0 0 Q (F0 m 157 ls []) := by
                              intro n
                              induction n with
                              | zero => intro v33 f34 h; rw [im_X5_solve_L157] at h; cases h
                              | succ n ih =>
                                intro v33 f34 h H locs ls hP hD hS hl
                                rw [im_X5_solve_L157] at h
                                refine lv_iload hx hb dX5_solve_157 (lv_at hl 5 rfl) ?_
                                refine lv_iload_n hx hb dX5_solve_159 rfl (lv_at hl 1 rfl) ?_
                                refine lv_icmp_gt (tgt := 213) hx hb dX5_solve_160 (by decide) (fun c160 => ?_) (fun c160 => ?_)
                                · replace h := im_t c160 h
                                  exact J31 f34 h _ _ _ hP hD hS (lv_sub hl [0, 1, 2, 3] rfl)
                                · replace h := im_f c160 h
                                  refine lv_aload_n hx hb dX5_solve_163 rfl (lv_at hl 0 rfl) ?_
                                  refine va_get (D := (dC, dI)) (ci := 4) (v := .ref a_this_lines) (C := RX5) (T := TX5) (N := 23) hx hb hts hn_X5_solve_X5 hown hK hP 0 rfl rfl 20 (by decide) (hts _ fl_X5_solve_43) (fun _ h9 => h9) rfl dX5_solve_164 ?_
                                  refine lv_bipush (v := (9 : Int32)) hx hb dX5_solve_167 (by decide) ?_
                                  refine lv_iload hx hb dX5_solve_169 (lv_at hl 3 rfl) ?_
                                  refine lv_imul hx hb dX5_solve_171 ?_
                                  refine lv_topi (fun v36 ev36 => ?_)
                                  replace h := im_lt_u h v36 ev36
                                  refine lv_iload hx hb dX5_solve_172 (lv_at hl 5 rfl) ?_
                                  refine lv_iadd hx hb dX5_solve_174 ?_
                                  refine lv_topi (fun v37 ev37 => ?_)
                                  replace h := im_lt_u h v37 ev37
                                  refine lv_aload_n hx hb dX5_solve_175 rfl (lv_at hl 0 rfl) ?_
                                  refine va_get (D := (dC, dI)) (ci := 4) (v := .ref a_this_lines) (C := RX5) (T := TX5) (N := 23) hx hb hts hn_X5_solve_X5 hown hK hP 0 rfl rfl 20 (by decide) (hts _ fl_X5_solve_43) (fun _ h9 => h9) rfl dX5_solve_176 ?_
                                  refine lv_bipush (v := (9 : Int32)) hx hb dX5_solve_179 (by decide) ?_
                                  refine lv_iload hx hb dX5_solve_181 (lv_at hl 3 rfl) ?_
                                  refine lv_imul hx hb dX5_solve_183 ?_
                                  refine lv_topi (fun v38 ev38 => ?_)
                                  replace h := im_lt_u h v38 ev38
                                  refine lv_iload hx hb dX5_solve_184 (lv_at hl 5 rfl) ?_
                                  refine lv_iadd hx hb dX5_solve_186 ?_
                                  refine lv_topi (fun v39 ev39 => ?_)
                                  replace h := im_lt_u h v39 ev39
                                  obtain ⟨q187, h⟩ := im_ld_u h
                                  refine va_iald hx hb hK hP 1 0 rfl rfl q187 dX5_solve_187 ?_
                                  refine lv_topi (fun v40 ev40 => ?_)
                                  replace h := h v40 ev40
                                  refine lv_iload hx hb dX5_solve_188 (lv_at hl 4 rfl) ?_
                                  refine lv_aload_n hx hb dX5_solve_190 rfl (lv_at hl 0 rfl) ?_
                                  refine va_get (D := (dC, dI)) (ci := 4) (v := .ref a_this_lines) (C := RX5) (T := TX5) (N := 23) hx hb hts hn_X5_solve_X5 hown hK hP 0 rfl rfl 20 (by decide) (hts _ fl_X5_solve_43) (fun _ h9 => h9) rfl dX5_solve_191 ?_
                                  refine lv_bipush (v := (9 : Int32)) hx hb dX5_solve_194 (by decide) ?_
                                  refine lv_iload_n hx hb dX5_solve_196 rfl (lv_at hl 2 rfl) ?_
                                  refine lv_imul hx hb dX5_solve_197 ?_
                                  refine lv_topi (fun v41 ev41 => ?_)
                                  replace h := im_lt_u h v41 ev41
                                  refine lv_iload hx hb dX5_solve_198 (lv_at hl 5 rfl) ?_
                                  refine lv_iadd hx hb dX5_solve_200 ?_
                                  refine lv_topi (fun v42 ev42 => ?_)
                                  replace h := im_lt_u h v42 ev42
                                  obtain ⟨q201, h⟩ := im_ld_u h
                                  refine va_iald hx hb hK hP 1 0 rfl rfl q201 dX5_solve_201 ?_
                                  refine lv_topi (fun v43 ev43 => ?_)
                                  replace h := h v43 ev43
                                  obtain ⟨v44, y202, h⟩ := im_b1_u h
                                  refine vp_callSi (W.runS (As := [.int v28, .int v43]) (rest := [.int v40, .int v37, .ref a_this_lines]) ⟨hx, hb, hml, hown, hts⟩ (c_X5_times l v28 v43 y202) (va_cwS 2 hts gX5_solve_X5_times rfl rfl rfl (by decide +kernel) ⟨Nat.le_of_ble_eq_true rfl, Nat.le_of_ble_eq_true rfl⟩) ⟨fun _ _ _ _ q => q, fun U hU hW => ⟨rfl, trivial⟩⟩ rfl rfl hl.1 rfl (lv_room (Nat.le_of_ble_eq_true rfl)) dX5_solve_202 ⟨Nat.zero_le _, Nat.zero_le _⟩) (fun w202 ew202 => ?_)
                                  have ew202 := ew202.symm
                                  subst ew202
                                  refine lv_ixor hx hb dX5_solve_205 ?_
                                  refine lv_topi (fun v45 ev45 => ?_)
                                  replace h := im_lt_u h v45 ev45
                                  obtain ⟨q206, h⟩ := im_st_u h
                                  refine va_iast hx hb hK hP hD hS 1 0 rfl rfl q206 dX5_solve_206 (fun H locs hP hD hS => ?_)
                                  obtain ⟨f46, ef46⟩ : ∃ g : Nat → Int32, g = upd f34 v37.toNatClampNeg v45 := ⟨_, rfl⟩
                                  replace h := h f46 ef46
                                  rw [← ef46] at hP hD
                                  have hP : va_P (dC, dI) vwCl [(a_this, .inr (4, [.int i_this_thrown, .int i_this_kind, .int i_this_form, .ref a_this_bits, .ref a_this_values, .ref a_this_has, .int i_this_fields, .int i_this_checks, .int i_this_symbols, .ref a_this_row, .int i_this_size, .ref a_this_seen, .int i_this_many, .ref a_this_told, .int i_this_right, .int i_this_mended, .int i_this_mask, .int i_this_turned, .ref a_this_word, .ref a_this_gone, .ref a_this_lines, .ref a_this_places, .ref a_this_square])), (a_this_lines, .inl (cI, n_this_lines, .inl f46)), (a_this_places, .inl (cI, n_this_places, .inl f_this_places)), (a_this_word, .inl (cI, n_this_word, .inl f_this_word))] H := hP
                                  have hD : va_D A [(a_this, .inr (4, [.int i_this_thrown, .int i_this_kind, .int i_this_form, .ref a_this_bits, .ref a_this_values, .ref a_this_has, .int i_this_fields, .int i_this_checks, .int i_this_symbols, .ref a_this_row, .int i_this_size, .ref a_this_seen, .int i_this_many, .ref a_this_told, .int i_this_right, .int i_this_mended, .int i_this_mask, .int i_this_turned, .ref a_this_word, .ref a_this_gone, .ref a_this_lines, .ref a_this_places, .ref a_this_square])), (a_this_lines, .inl (cI, n_this_lines, .inl f46)), (a_this_places, .inl (cI, n_this_places, .inl f_this_places)), (a_this_word, .inl (cI, n_this_word, .inl f_this_word))] := hD
                                  obtain ⟨v47, ev47⟩ : ∃ y : Int32, y = (v33 + (1 : Int32)) := ⟨_, rfl⟩
                                  replace h := im_lt_u h v47 ev47
                                  refine lv_iinc (v := v47) (lv' := [(7, .int v47), (0, .ref a_this), (1, .int x0), (2, .int v10), (5, .int v25), (6, .int v28)]) hx hb dX5_solve_207 hl (k := 5) rfl (by rw [ev47]; rfl) (by decide) rfl (fun ls hl => ?_)
                                  refine lv_goto (tgt := 157) hx hb dX5_solve_210 (by decide) ?_
                                  exact ih v47 f46 h _ _ _ hP hD hS (lv_sub hl [1, 2, 3, 4, 5, 0] rfl)
                            exact Lp35 5000 (0 : Int32) f26 h _ _ _ hP hD hS (lv_sub hl [2, 3, 4, 5, 1, 0] rfl)
                        · refine lv_iload hx hb dX5_solve_130 (lv_at hl 3 rfl) ?_
                          refine lv_iload_n hx hb dX5_solve_132 rfl (lv_at hl 2 rfl) ?_
                          refine lv_icmp_ne (tgt := 140) hx hb dX5_solve_133 (by decide) (fun c133 => ?_) (fun c133 => ?_)
                          · replace h := im_f c133 h
                            refine lv_aload_n hx hb dX5_solve_140 rfl (lv_at hl 0 rfl) ?_
                            refine va_get (D := (dC, dI)) (ci := 4) (v := .ref a_this_lines) (C := RX5) (T := TX5) (N := 23) hx hb hts hn_X5_solve_X5 hown hK hP 0 rfl rfl 20 (by decide) (hts _ fl_X5_solve_43) (fun _ h9 => h9) rfl dX5_solve_141 ?_
                            refine lv_bipush (v := (9 : Int32)) hx hb dX5_solve_144 (by decide) ?_
                            refine lv_iload hx hb dX5_solve_146 (lv_at hl 3 rfl) ?_
                            refine lv_imul hx hb dX5_solve_148 ?_
                            refine lv_topi (fun v48 ev48 => ?_)
                            replace h := im_lt_u h v48 ev48
                            refine lv_iload_n hx hb dX5_solve_149 rfl (lv_at hl 2 rfl) ?_
                            refine lv_iadd hx hb dX5_solve_150 ?_
                            refine lv_topi (fun v49 ev49 => ?_)
                            replace h := im_lt_u h v49 ev49
                            obtain ⟨q151, h⟩ := im_ld_u h
                            refine va_iald hx hb hK hP 1 0 rfl rfl q151 dX5_solve_151 ?_
                            refine lv_topi (fun v50 ev50 => ?_)
                            replace h := h v50 ev50
                            exact J29 v50 h _ _ _ hP hD hS (lv_sub hl [0, 1, 2, 3] rfl)
                          · replace h := im_t c133 h
                            refine lv_iconst (v := (0 : Int32)) hx hb dX5_solve_136 (by decide) ?_
                            refine lv_goto (tgt := 152) hx hb dX5_solve_137 (by decide) ?_
                            exact J29 (0 : Int32) h _ _ _ hP hD hS (lv_sub hl [0, 1, 2, 3] rfl)
                  exact Lp27 5000 (0 : Int32) f20 h _ _ _ hP hD hS (lv_sub hl [1, 2, 3, 0] rfl)
              · have Lp53 : ∀ (n : Nat) (v51 : Int32) (f52 : Nat → Int32), im_X5_solve_L77 x0 K21 v10 n_this_lines v19 n v51 f52 = some r → ∀ (H : Heap) (locs : List Loc) (ls : Array Slot), va_P (dC, dI) vwCl [(a_this, .inr (4, [.int i_this_thrown, .int i_this_kind, .int i_this_form, .ref a_this_bits, .ref a_this_values, .ref a_this_has, .int i_this_fields, .int i_this_checks, .int i_this_symbols, .ref a_this_row, .int i_this_size, .ref a_this_seen, .int i_this_many, .ref a_this_told, .int i_this_right, .int i_this_mended, .int i_this_mask, .int i_this_turned, .ref a_this_word, .ref a_this_gone, .ref a_this_lines, .ref a_this_places, .ref a_this_square])), (a_this_lines, .inl (cI, n_this_lines, .inl f52)), (a_this_places, .inl (cI, n_this_places, .inl f_this_places)), (a_this_word, .inl (cI, n_this_word, .inl f_this_word))] H → va_D A [(a_this, .inr (4, [.int i_this_thrown, .int i_this_kind, .int i_this_form, .ref a_this_bits, .ref a_this_values, .ref a_this_has, .int i_this_fields, .int i_this_checks, .int i_this_symbols, .ref a_this_row, .int i_this_size, .ref a_this_seen, .int i_this_many, .ref a_this_told, .int i_this_right, .int i_this_mended, .int i_this_mask, .int i_this_turned, .ref a_this_word, .ref a_this_gone, .ref a_this_lines, .ref a_this_places, .ref a_this_square])), (a_this_lines, .inl (cI, n_this_lines, .inl f52)), (a_this_places, .inl (cI, n_this_places, .inl f_this_places)), (a_this_word, .inl (cI, n_this_word, .inl f_this_word))] → va_S A s.heap H locs → lv_has ls 8 [(0, .ref a_this), (1, .int x0), (2, .int v10), (4, .int v19), (5, .int v51)] → W p l e (headSpec wsX5_solve rm_X5_solve).room s m args below meth c H locs 0 0 Q (F0 m 77 ls []) := by
                  intro n
                  induction n with
                  | zero => intro v51 f52 h; rw [im_X5_solve_L77] at h; cases h
                  | succ n ih =>
                    intro v51 f52 h H locs ls hP hD hS hl
                    rw [im_X5_solve_L77] at h
                    refine lv_iload hx hb dX5_solve_77 (lv_at hl 4 rfl) ?_
                    refine lv_iload_n hx hb dX5_solve_79 rfl (lv_at hl 1 rfl) ?_
                    refine lv_icmp_gt (tgt := 118) hx hb dX5_solve_80 (by decide) (fun c80 => ?_) (fun c80 => ?_)
                    · replace h := im_t c80 h
                      exact J21 f52 h _ _ _ hP hD hS (lv_sub hl [0, 1, 2] rfl)
                    · replace h := im_f c80 h
                      refine lv_aload_n hx hb dX5_solve_83 rfl (lv_at hl 0 rfl) ?_
                      refine va_get (D := (dC, dI)) (ci := 4) (v := .ref a_this_lines) (C := RX5) (T := TX5) (N := 23) hx hb hts hn_X5_solve_X5 hown hK hP 0 rfl rfl 20 (by decide) (hts _ fl_X5_solve_43) (fun _ h9 => h9) rfl dX5_solve_84 ?_
                      refine lv_bipush (v := (9 : Int32)) hx hb dX5_solve_87 (by decide) ?_
                      refine lv_iload_n hx hb dX5_solve_89 rfl (lv_at hl 2 rfl) ?_
                      refine lv_imul hx hb dX5_solve_90 ?_
                      refine lv_topi (fun v54 ev54 => ?_)
                      replace h := im_lt_u h v54 ev54
                      refine lv_iload hx hb dX5_solve_91 (lv_at hl 4 rfl) ?_
                      refine lv_iadd hx hb dX5_solve_93 ?_
                      refine lv_topi (fun v55 ev55 => ?_)
                      replace h := im_lt_u h v55 ev55
                      refine lv_aload_n hx hb dX5_solve_94 rfl (lv_at hl 0 rfl) ?_
                      refine va_get (D := (dC, dI)) (ci := 4) (v := .ref a_this_lines) (C := RX5) (T := TX5) (N := 23) hx hb hts hn_X5_solve_X5 hown hK hP 0 rfl rfl 20 (by decide) (hts _ fl_X5_solve_43) (fun _ h9 => h9) rfl dX5_solve_95 ?_
                      refine lv_bipush (v := (9 : Int32)) hx hb dX5_solve_98 (by decide) ?_
                      refine lv_iload_n hx hb dX5_solve_100 rfl (lv_at hl 2 rfl) ?_
                      refine lv_imul hx hb dX5_solve_101 ?_
                      refine lv_topi (fun v56 ev56 => ?_)
                      replace h := im_lt_u h v56 ev56
                      refine lv_iload hx hb dX5_solve_102 (lv_at hl 4 rfl) ?_
                      refine lv_iadd hx hb dX5_solve_104 ?_
                      refine lv_topi (fun v57 ev57 => ?_)
                      replace h := im_lt_u h v57 ev57
                      obtain ⟨q105, h⟩ := im_ld_u h
                      refine va_iald hx hb hK hP 1 0 rfl rfl q105 dX5_solve_105 ?_
                      refine lv_topi (fun v58 ev58 => ?_)
                      replace h := h v58 ev58
                      refine lv_iload hx hb dX5_solve_106 (lv_at hl 3 rfl) ?_
                      obtain ⟨v59, y108, h⟩ := im_b1_u h
                      refine vp_callSi (W.runS (As := [.int v58, .int v19]) (rest := [.int v55, .ref a_this_lines]) ⟨hx, hb, hml, hown, hts⟩ (c_X5_times l v58 v19 y108) (va_cwS 2 hts gX5_solve_X5_times rfl rfl rfl (by decide +kernel) ⟨Nat.le_of_ble_eq_true rfl, Nat.le_of_ble_eq_true rfl⟩) ⟨fun _ _ _ _ q => q, fun U hU hW => ⟨rfl, trivial⟩⟩ rfl rfl hl.1 rfl (lv_room (Nat.le_of_ble_eq_true rfl)) dX5_solve_108 ⟨Nat.zero_le _, Nat.zero_le _⟩) (fun w108 ew108 => ?_)
                      have ew108 := ew108.symm
                      subst ew108
                      obtain ⟨q111, h⟩ := im_st_u h
                      refine va_iast hx hb hK hP hD hS 1 0 rfl rfl q111 dX5_solve_111 (fun H locs hP hD hS => ?_)
                      obtain ⟨f60, ef60⟩ : ∃ g : Nat → Int32, g = upd f52 v55.toNatClampNeg v59 := ⟨_, rfl⟩
                      replace h := h f60 ef60
                      rw [← ef60] at hP hD
                      have hP : va_P (dC, dI) vwCl [(a_this, .inr (4, [.int i_this_thrown, .int i_this_kind, .int i_this_form, .ref a_this_bits, .ref a_this_values, .ref a_this_has, .int i_this_fields, .int i_this_checks, .int i_this_symbols, .ref a_this_row, .int i_this_size, .ref a_this_seen, .int i_this_many, .ref a_this_told, .int i_this_right, .int i_this_mended, .int i_this_mask, .int i_this_turned, .ref a_this_word, .ref a_this_gone, .ref a_this_lines, .ref a_this_places, .ref a_this_square])), (a_this_lines, .inl (cI, n_this_lines, .inl f60)), (a_this_places, .inl (cI, n_this_places, .inl f_this_places)), (a_this_word, .inl (cI, n_this_word, .inl f_this_word))] H := hP
                      have hD : va_D A [(a_this, .inr (4, [.int i_this_thrown, .int i_this_kind, .int i_this_form, .ref a_this_bits, .ref a_this_values, .ref a_this_has, .int i_this_fields, .int i_this_checks, .int i_this_symbols, .ref a_this_row, .int i_this_size, .ref a_this_seen, .int i_this_many, .ref a_this_told, .int i_this_right, .int i_this_mended, .int i_this_mask, .int i_this_turned, .ref a_this_word, .ref a_this_gone, .ref a_this_lines, .ref a_this_places, .ref a_this_square])), (a_this_lines, .inl (cI, n_this_lines, .inl f60)), (a_this_places, .inl (cI, n_this_places, .inl f_this_places)), (a_this_word, .inl (cI, n_this_word, .inl f_this_word))] := hD
                      obtain ⟨v61, ev61⟩ : ∃ y : Int32, y = (v51 + (1 : Int32)) := ⟨_, rfl⟩
                      replace h := im_lt_u h v61 ev61
                      refine lv_iinc (v := v61) (lv' := [(5, .int v61), (0, .ref a_this), (1, .int x0), (2, .int v10), (4, .int v19)]) hx hb dX5_solve_112 hl (k := 4) rfl (by rw [ev61]; rfl) (by decide) rfl (fun ls hl => ?_)
                      refine lv_goto (tgt := 77) hx hb dX5_solve_115 (by decide) ?_
                      exact ih v61 f60 h _ _ _ hP hD hS (lv_sub hl [1, 2, 3, 4, 0] rfl)
                exact Lp53 5000 (0 : Int32) f15 h _ _ _ hP hD hS (lv_sub hl [2, 3, 4, 1, 0] rfl)
            · replace h := im_t c47 h
              refine lv_iconst (v := (0 : Int32)) hx hb dX5_solve_50 (by decide) ?_
              rw [eQ]
              exact W.zret (ty := .boolean) (v := (0 : Int32)) hx hb hr rfl (fun t ht hW => ⟨⟨_, f11, rfl, Option.some.inj h, by rw [ht]; exact hP, va_K.moved hW.alike hK, hD⟩, hS.F ht⟩) hS.2.2 dX5_solve_51
          · have Lp63 : ∀ (n : Nat) (v62 : Int32), im_X5_solve_L14 i_this_checks K14 v10 n_this_lines f11 n v62 = some r → ∀ (H : Heap) (locs : List Loc) (ls : Array Slot), va_P (dC, dI) vwCl [(a_this, .inr (4, [.int i_this_thrown, .int i_this_kind, .int i_this_form, .ref a_this_bits, .ref a_this_values, .ref a_this_has, .int i_this_fields, .int i_this_checks, .int i_this_symbols, .ref a_this_row, .int i_this_size, .ref a_this_seen, .int i_this_many, .ref a_this_told, .int i_this_right, .int i_this_mended, .int i_this_mask, .int i_this_turned, .ref a_this_word, .ref a_this_gone, .ref a_this_lines, .ref a_this_places, .ref a_this_square])), (a_this_lines, .inl (cI, n_this_lines, .inl f11)), (a_this_places, .inl (cI, n_this_places, .inl f_this_places)), (a_this_word, .inl (cI, n_this_word, .inl f_this_word))] H → va_D A [(a_this, .inr (4, [.int i_this_thrown, .int i_this_kind, .int i_this_form, .ref a_this_bits, .ref a_this_values, .ref a_this_has, .int i_this_fields, .int i_this_checks, .int i_this_symbols, .ref a_this_row, .int i_this_size, .ref a_this_seen, .int i_this_many, .ref a_this_told, .int i_this_right, .int i_this_mended, .int i_this_mask, .int i_this_turned, .ref a_this_word, .ref a_this_gone, .ref a_this_lines, .ref a_this_places, .ref a_this_square])), (a_this_lines, .inl (cI, n_this_lines, .inl f11)), (a_this_places, .inl (cI, n_this_places, .inl f_this_places)), (a_this_word, .inl (cI, n_this_word, .inl f_this_word))] → va_S A s.heap H locs → lv_has ls 8 [(0, .ref a_this), (1, .int x0), (2, .int v10), (3, .int v62)] → W p l e (headSpec wsX5_solve rm_X5_solve).room s m args below meth c H locs 0 0 Q (F0 m 14 ls []) := by
              intro n
              induction n with
              | zero => intro v62 h; rw [im_X5_solve_L14] at h; cases h
              | succ n ih =>
                intro v62 h H locs ls hP hD hS hl
                rw [im_X5_solve_L14] at h
                refine lv_iload_n hx hb dX5_solve_14 rfl (lv_at hl 3 rfl) ?_
                refine lv_aload_n hx hb dX5_solve_15 rfl (lv_at hl 0 rfl) ?_
                refine va_get (D := (dC, dI)) (ci := 4) (v := .int i_this_checks) (C := RX5) (T := TX5) (N := 23) hx hb hts hn_X5_solve_X5 hown hK hP 0 rfl rfl 7 (by decide) (hts _ fl_X5_solve_62) (fun _ h9 => h9) rfl dX5_solve_16 ?_
                refine lv_icmp_ge (tgt := 42) hx hb dX5_solve_19 (by decide) (fun c19 => ?_) (fun c19 => ?_)
                · replace h := im_t c19 h
                  exact J14 v62 h _ _ _ hP hD hS (lv_sub hl [0, 1, 2, 3] rfl)
                · replace h := im_f c19 h
                  refine lv_aload_n hx hb dX5_solve_22 rfl (lv_at hl 0 rfl) ?_
                  refine va_get (D := (dC, dI)) (ci := 4) (v := .ref a_this_lines) (C := RX5) (T := TX5) (N := 23) hx hb hts hn_X5_solve_X5 hown hK hP 0 rfl rfl 20 (by decide) (hts _ fl_X5_solve_43) (fun _ h9 => h9) rfl dX5_solve_23 ?_
                  refine lv_bipush (v := (9 : Int32)) hx hb dX5_solve_26 (by decide) ?_
                  refine lv_iload_n hx hb dX5_solve_28 rfl (lv_at hl 3 rfl) ?_
                  refine lv_imul hx hb dX5_solve_29 ?_
                  refine lv_topi (fun v64 ev64 => ?_)
                  replace h := im_lt_u h v64 ev64
                  refine lv_iload_n hx hb dX5_solve_30 rfl (lv_at hl 2 rfl) ?_
                  refine lv_iadd hx hb dX5_solve_31 ?_
                  refine lv_topi (fun v65 ev65 => ?_)
                  replace h := im_lt_u h v65 ev65
                  obtain ⟨q32, h⟩ := im_ld_u h
                  refine va_iald hx hb hK hP 1 0 rfl rfl q32 dX5_solve_32 ?_
                  refine lv_topi (fun v66 ev66 => ?_)
                  replace h := h v66 ev66
                  refine lv_if_ne (tgt := 42) hx hb dX5_solve_33 (by decide) (fun c33 => ?_) (fun c33 => ?_)
                  · replace h := im_f c33 h
                    exact J14 v62 h _ _ _ hP hD hS (lv_sub hl [0, 1, 2, 3] rfl)
                  · replace h := im_t c33 h
                    obtain ⟨v67, ev67⟩ : ∃ y : Int32, y = (v62 + (1 : Int32)) := ⟨_, rfl⟩
                    replace h := im_lt_u h v67 ev67
                    refine lv_iinc (v := v67) (lv' := [(3, .int v67), (0, .ref a_this), (1, .int x0), (2, .int v10)]) hx hb dX5_solve_36 hl (k := 3) rfl (by rw [ev67]; rfl) (by decide) rfl (fun ls hl => ?_)
                    refine lv_goto (tgt := 14) hx hb dX5_solve_39 (by decide) ?_
                    exact ih v67 h _ _ _ hP hD hS (lv_sub hl [1, 2, 3, 0] rfl)
            exact Lp63 5000 v10 h _ _ _ hP hD hS (lv_sub hl [1, 2, 3, 0] rfl)
    exact Lp12 5000 (0 : Int32) f1 h _ _ _ hP hD hS (lv_sub hl [1, 2, 0] rfl)
def im_X5_lost_L4 (i_this_symbols : Int32) (n_this_gone : Nat) (f_this_gone : Nat → Int32) : Nat → Int32 → Int32 → Option (Int32)
  | 0, _, _ => none
  | n + 1, v1, v2 => if i_this_symbols ≤ v2 then (some v1) else im_j1 (fun (v4 : Int32) => im_lt (v2 + (1 : Int32)) (fun v6 => (im_X5_lost_L4 i_this_symbols n_this_gone f_this_gone n v4 v6))) (fun K5 => im_ld n_this_gone f_this_gone v2 (fun v7 => if v7 = 0 then (K5 v1) else im_lt (v1 + (1 : Int32)) (fun v8 => (K5 v8))))
def im_X5_lost (i_this_symbols : Int32) (n_this_gone : Nat) (f_this_gone : Nat → Int32) : Option (Int32) := (im_X5_lost_L4 i_this_symbols n_this_gone f_this_gone 5000 (0 : Int32) (0 : Int32))
abbrev rm_X5_lost : Room := { frames := 0, cells := 0, slots := 0, locals := 0 }
theorem hn_X5_lost_X5 : ∀ w ∈ wsX50, w ∈ wsX5_lost := by decide +kernel
theorem fl_X5_lost_65 : Cond.fieldLink RX5 65 "BarCodesModel" "symbols" "I" ∈ wsX5_lost := by decide +kernel
theorem fl_X5_lost_40 : Cond.fieldLink RX5 40 "BarCodesModel" "gone" "[Z" ∈ wsX5_lost := by decide +kernel
set_option maxHeartbeats 4000000 in
set_option maxRecDepth 100000 in
theorem c_X5_lost (l : Launch) (dC : Nat → ClassId) (dI : Nat → Nat → Nat) (cI cJ cZ : ClassId) (a_this a_this_bits a_this_values a_this_has a_this_row a_this_seen a_this_told a_this_word a_this_gone a_this_lines a_this_places a_this_square : Nat) (i_this_thrown i_this_kind i_this_form i_this_fields i_this_checks i_this_symbols i_this_size i_this_many i_this_right i_this_mended i_this_mask i_this_turned : Int32) (n_this_gone : Nat) (f_this_gone : Nat → Int32) {r : Int32} (h : im_X5_lost i_this_symbols n_this_gone f_this_gone = some r) : Met l yX5_lost wsX5_lost rm_X5_lost (va_Pc [.ref a_this] (fun U => va_P (dC, dI) vwCl [(a_this, .inr (4, [.int i_this_thrown, .int i_this_kind, .int i_this_form, .ref a_this_bits, .ref a_this_values, .ref a_this_has, .int i_this_fields, .int i_this_checks, .int i_this_symbols, .ref a_this_row, .int i_this_size, .ref a_this_seen, .int i_this_many, .ref a_this_told, .int i_this_right, .int i_this_mended, .int i_this_mask, .int i_this_turned, .ref a_this_word, .ref a_this_gone, .ref a_this_lines, .ref a_this_places, .ref a_this_square])), (a_this_gone, .inl (cZ, n_this_gone, .inl f_this_gone))] U.heap ∧ va_K (dC, dI) vwCl [(cI, .int), (cJ, .long), (cZ, .boolean)] U)) (vp_Si (fun r9 => r9 = r)) 0 0 (fun _ => False) := by
  refine Met.ofW (cc := cX5_lost) (maxL := 3) (ret := (some .int)) (by decide) rfl ?_
  intro p e s m args below meth c s₁ B hml hv
  obtain ⟨eargs, hP, hK⟩ := hv
  have hx := B.exec
  have hb := B.bytes
  have hr := B.returns
  have hts := atoms_spec (ws := wsX5_lost) B.pre
  have hown : s.vm.findClass RX5 = some m.cls := findClass_of_methodNamed B.named
  have hlocks := B.notSynchronized
  refine im_Q (fun Q eQ => ?_)
  have hl := lv_entry [.ref a_this] (n := 3) (Nat.le_of_ble_eq_true rfl)
  rw [show entryFrame m args 3 = entryFrame m ([.ref a_this] : List Value).toArray 3 by rw [eargs], lg_entry_eq]
  generalize (lg_sl ([.ref a_this]) ++ List.replicate (3 - (lg_sl ([.ref a_this])).length) Slot.unset).toArray = ls at hl ⊢
  have hl : lv_has ls 3 [(0, .ref a_this)] := hl
  rw [im_X5_lost] at h
  refine lv_iconst (v := (0 : Int32)) hx hb dX5_lost_0 (by decide) ?_
  refine lv_istore_n (lv' := [(1, .int (0 : Int32)), (0, .ref a_this)]) hx hb dX5_lost_1 rfl hl (by decide) rfl (fun ls hl => ?_)
  refine lv_iconst (v := (0 : Int32)) hx hb dX5_lost_2 (by decide) ?_
  refine lv_istore_n (lv' := [(2, .int (0 : Int32)), (1, .int (0 : Int32)), (0, .ref a_this)]) hx hb dX5_lost_3 rfl hl (by decide) rfl (fun ls hl => ?_)
  have Lp3 : ∀ (n : Nat) (v1 : Int32) (v2 : Int32), im_X5_lost_L4 i_this_symbols n_this_gone f_this_gone n v1 v2 = some r → ∀ (ls : Array Slot), lv_has ls 3 [(0, .ref a_this), (1, .int v1), (2, .int v2)] → W p l e (headSpec wsX5_lost rm_X5_lost).room s m args below meth c s.heap [] 0 0 Q (F0 m 4 ls []) := by
    intro n
    induction n with
    | zero => intro v1 v2 h; rw [im_X5_lost_L4] at h; cases h
    | succ n ih =>
      intro v1 v2 h ls hl
      rw [im_X5_lost_L4] at h
      refine lv_iload_n hx hb dX5_lost_4 rfl (lv_at hl 2 rfl) ?_
      refine lv_aload_n hx hb dX5_lost_5 rfl (lv_at hl 0 rfl) ?_
      refine va_get (D := (dC, dI)) (ci := 4) (v := .int i_this_symbols) (C := RX5) (T := TX5) (N := 23) hx hb hts hn_X5_lost_X5 hown hK hP 0 rfl rfl 8 (by decide) (hts _ fl_X5_lost_65) (fun _ h9 => h9) rfl dX5_lost_6 ?_
      refine lv_icmp_ge (tgt := 35) hx hb dX5_lost_9 (by decide) (fun c9 => ?_) (fun c9 => ?_)
      · replace h := im_t c9 h
        refine lv_iload_n hx hb dX5_lost_35 rfl (lv_at hl 1 rfl) ?_
        rw [eQ]
        exact W.iret (v := v1) hx hb hr (fun t ht hW => ⟨_, rfl, Option.some.inj h, ht⟩) (fun _ h9 => by cases h9) dX5_lost_36
      · replace h := im_f c9 h
        refine im_j1_u (P := fun v4 => ∀ (ls : Array Slot), lv_has ls 3 [(0, .ref a_this), (2, .int v2)] → W p l e (headSpec wsX5_lost rm_X5_lost).room s m args below meth c s.heap [] 0 0 Q (F0 m 28 ls [.int v4])) h (fun v4 h ls hl => ?_) (fun K5 J5 h => ?_)
        · refine lv_istore_n (lv' := [(1, .int v4), (0, .ref a_this), (2, .int v2)]) hx hb dX5_lost_28 rfl hl (by decide) rfl (fun ls hl => ?_)
          obtain ⟨v6, ev6⟩ : ∃ y : Int32, y = (v2 + (1 : Int32)) := ⟨_, rfl⟩
          replace h := im_lt_u h v6 ev6
          refine lv_iinc (v := v6) (lv' := [(2, .int v6), (1, .int v4), (0, .ref a_this)]) hx hb dX5_lost_29 hl (k := 2) rfl (by rw [ev6]; rfl) (by decide) rfl (fun ls hl => ?_)
          refine lv_goto (tgt := 4) hx hb dX5_lost_32 (by decide) ?_
          exact ih v4 v6 h _ (lv_sub hl [2, 1, 0] rfl)
        · refine lv_aload_n hx hb dX5_lost_12 rfl (lv_at hl 0 rfl) ?_
          refine va_get (D := (dC, dI)) (ci := 4) (v := .ref a_this_gone) (C := RX5) (T := TX5) (N := 23) hx hb hts hn_X5_lost_X5 hown hK hP 0 rfl rfl 19 (by decide) (hts _ fl_X5_lost_40) (fun _ h9 => h9) rfl dX5_lost_13 ?_
          refine lv_iload_n hx hb dX5_lost_16 rfl (lv_at hl 2 rfl) ?_
          obtain ⟨q17, h⟩ := im_ld_u h
          refine va_zald hx hb hK hP 1 2 rfl rfl q17 dX5_lost_17 ?_
          refine lv_topi (fun v7 ev7 => ?_)
          replace h := h v7 ev7
          refine lv_if_eq (tgt := 27) hx hb dX5_lost_18 (by decide) (fun c18 => ?_) (fun c18 => ?_)
          · replace h := im_t c18 h
            refine lv_iload_n hx hb dX5_lost_27 rfl (lv_at hl 1 rfl) ?_
            exact J5 v1 h _ (lv_sub hl [0, 2] rfl)
          · replace h := im_f c18 h
            refine lv_iload_n hx hb dX5_lost_21 rfl (lv_at hl 1 rfl) ?_
            refine lv_iconst (v := (1 : Int32)) hx hb dX5_lost_22 (by decide) ?_
            refine lv_iadd hx hb dX5_lost_23 ?_
            refine lv_topi (fun v8 ev8 => ?_)
            replace h := im_lt_u h v8 ev8
            refine lv_goto (tgt := 28) hx hb dX5_lost_24 (by decide) ?_
            exact J5 v8 h _ (lv_sub hl [0, 2] rfl)
  exact Lp3 5000 (0 : Int32) (0 : Int32) h _ (lv_sub hl [2, 1, 0] rfl)
def im_X5_begin_L44 (x0 : Int32) (x1 : Int32) (n_this_gone : Nat) (f_this_gone : Nat → Int32) (n_this_places : Nat) : Nat → Int32 → Int32 → (Nat → Int32) → Option ((Nat → Int32))
  | 0, _, _, _ => none
  | n + 1, v4, v5, f6 => im_lt (x0 + x1) (fun v8 => if v8 ≤ v4 then (some f6) else im_j2 (fun (v9 : Int32) (f10 : Nat → Int32) => im_lt (v5 + (1 : Int32)) (fun v12 => (im_X5_begin_L44 x0 x1 n_this_gone f_this_gone n_this_places n v9 v12 f10))) (fun K11 => im_ld n_this_gone f_this_gone v5 (fun v13 => if v13 = 0 then im_st n_this_places f6 v4 v5 (fun f14 => im_lt (v4 + (1 : Int32)) (fun v15 => (K11 v15 f14))) else (K11 v4 f6))))
def im_X5_begin_L5 (i_this_symbols : Int32) (K3 : Int32 → (Nat → Int32) → Option ((Nat → Int32))) (n_this_gone : Nat) (f_this_gone : Nat → Int32) (n_this_places : Nat) : Nat → Int32 → Int32 → (Nat → Int32) → Option ((Nat → Int32))
  | 0, _, _, _ => none
  | n + 1, v16, v17, f18 => if i_this_symbols ≤ v17 then (K3 v16 f18) else im_j2 (fun (v20 : Int32) (f21 : Nat → Int32) => im_lt (v17 + (1 : Int32)) (fun v23 => (im_X5_begin_L5 i_this_symbols K3 n_this_gone f_this_gone n_this_places n v20 v23 f21))) (fun K22 => im_ld n_this_gone f_this_gone v17 (fun v24 => if v24 = 0 then (K22 v16 f18) else im_st n_this_places f18 v16 v17 (fun f25 => im_lt (v16 + (1 : Int32)) (fun v26 => (K22 v26 f25)))))
def im_X5_begin (x0 : Int32) (x1 : Int32) (i_this_symbols : Int32) (n_this_gone : Nat) (n_this_places : Nat) (f_this_gone : Nat → Int32) (f_this_places : Nat → Int32) : Option ((Nat → Int32)) := im_j2 (fun (v1 : Int32) (f2 : Nat → Int32) => (im_X5_begin_L44 x0 x1 n_this_gone f_this_gone n_this_places 5000 v1 (0 : Int32) f2)) (fun K3 => (im_X5_begin_L5 i_this_symbols K3 n_this_gone f_this_gone n_this_places 5000 (0 : Int32) (0 : Int32) f_this_places))
abbrev rm_X5_begin : Room := { frames := 0, cells := 0, slots := 0, locals := 0 }
theorem hn_X5_begin_X5 : ∀ w ∈ wsX50, w ∈ wsX5_begin := by decide +kernel
theorem fl_X5_begin_40 : Cond.fieldLink RX5 40 "BarCodesModel" "gone" "[Z" ∈ wsX5_begin := by decide +kernel
theorem fl_X5_begin_46 : Cond.fieldLink RX5 46 "BarCodesModel" "places" "[I" ∈ wsX5_begin := by decide +kernel
theorem fl_X5_begin_65 : Cond.fieldLink RX5 65 "BarCodesModel" "symbols" "I" ∈ wsX5_begin := by decide +kernel
set_option maxHeartbeats 4000000 in
set_option maxRecDepth 100000 in
theorem c_X5_begin (l : Launch) (dC : Nat → ClassId) (dI : Nat → Nat → Nat) (cI cJ cZ : ClassId) (sz : Nat) (a_this a_this_bits a_this_values a_this_has a_this_row a_this_seen a_this_told a_this_word a_this_gone a_this_lines a_this_places a_this_square : Nat) (i_this_thrown i_this_kind i_this_form i_this_fields i_this_checks i_this_symbols i_this_size i_this_many i_this_right i_this_mended i_this_mask i_this_turned : Int32) (n_this_gone n_this_places : Nat) (f_this_gone : Nat → Int32) (f_this_places : Nat → Int32) (x0 : Int32) (x1 : Int32) {r : (Nat → Int32)} (h : im_X5_begin x0 x1 i_this_symbols n_this_gone n_this_places f_this_gone f_this_places = some r) : Met l yX5_begin wsX5_begin rm_X5_begin (va_Pc [.ref a_this, .int x0, .int x1] (fun U => U.heap.size = sz ∧ va_P (dC, dI) vwCl [(a_this, .inr (4, [.int i_this_thrown, .int i_this_kind, .int i_this_form, .ref a_this_bits, .ref a_this_values, .ref a_this_has, .int i_this_fields, .int i_this_checks, .int i_this_symbols, .ref a_this_row, .int i_this_size, .ref a_this_seen, .int i_this_many, .ref a_this_told, .int i_this_right, .int i_this_mended, .int i_this_mask, .int i_this_turned, .ref a_this_word, .ref a_this_gone, .ref a_this_lines, .ref a_this_places, .ref a_this_square])), (a_this_gone, .inl (cZ, n_this_gone, .inl f_this_gone)), (a_this_places, .inl (cI, n_this_places, .inl f_this_places))] U.heap ∧ va_K (dC, dI) vwCl [(cI, .int), (cJ, .long), (cZ, .boolean)] U ∧ va_D (fun _ => True) [(a_this, .inr (4, [.int i_this_thrown, .int i_this_kind, .int i_this_form, .ref a_this_bits, .ref a_this_values, .ref a_this_has, .int i_this_fields, .int i_this_checks, .int i_this_symbols, .ref a_this_row, .int i_this_size, .ref a_this_seen, .int i_this_many, .ref a_this_told, .int i_this_right, .int i_this_mended, .int i_this_mask, .int i_this_turned, .ref a_this_word, .ref a_this_gone, .ref a_this_lines, .ref a_this_places, .ref a_this_square])), (a_this_gone, .inl (cZ, n_this_gone, .inl f_this_gone)), (a_this_places, .inl (cI, n_this_places, .inl f_this_places))])) (va_Qv (S := (Nat → Int32)) (fun u9 => u9 = r) (fun u9 t9 => va_P (dC, dI) vwCl [(a_this, .inr (4, [.int i_this_thrown, .int i_this_kind, .int i_this_form, .ref a_this_bits, .ref a_this_values, .ref a_this_has, .int i_this_fields, .int i_this_checks, .int i_this_symbols, .ref a_this_row, .int i_this_size, .ref a_this_seen, .int i_this_many, .ref a_this_told, .int i_this_right, .int i_this_mended, .int i_this_mask, .int i_this_turned, .ref a_this_word, .ref a_this_gone, .ref a_this_lines, .ref a_this_places, .ref a_this_square])), (a_this_gone, .inl (cZ, n_this_gone, .inl f_this_gone)), (a_this_places, .inl (cI, n_this_places, .inl (u9)))] t9.heap ∧ va_K (dC, dI) vwCl [(cI, .int), (cJ, .long), (cZ, .boolean)] t9 ∧ va_D (va_A [(a_this, .inr (4, [.int i_this_thrown, .int i_this_kind, .int i_this_form, .ref a_this_bits, .ref a_this_values, .ref a_this_has, .int i_this_fields, .int i_this_checks, .int i_this_symbols, .ref a_this_row, .int i_this_size, .ref a_this_seen, .int i_this_many, .ref a_this_told, .int i_this_right, .int i_this_mended, .int i_this_mask, .int i_this_turned, .ref a_this_word, .ref a_this_gone, .ref a_this_lines, .ref a_this_places, .ref a_this_square])), (a_this_gone, .inl (cZ, n_this_gone, .inl f_this_gone)), (a_this_places, .inl (cI, n_this_places, .inl f_this_places))] sz) [(a_this, .inr (4, [.int i_this_thrown, .int i_this_kind, .int i_this_form, .ref a_this_bits, .ref a_this_values, .ref a_this_has, .int i_this_fields, .int i_this_checks, .int i_this_symbols, .ref a_this_row, .int i_this_size, .ref a_this_seen, .int i_this_many, .ref a_this_told, .int i_this_right, .int i_this_mended, .int i_this_mask, .int i_this_turned, .ref a_this_word, .ref a_this_gone, .ref a_this_lines, .ref a_this_places, .ref a_this_square])), (a_this_gone, .inl (cZ, n_this_gone, .inl f_this_gone)), (a_this_places, .inl (cI, n_this_places, .inl (u9)))]) (va_A [(a_this, .inr (4, [.int i_this_thrown, .int i_this_kind, .int i_this_form, .ref a_this_bits, .ref a_this_values, .ref a_this_has, .int i_this_fields, .int i_this_checks, .int i_this_symbols, .ref a_this_row, .int i_this_size, .ref a_this_seen, .int i_this_many, .ref a_this_told, .int i_this_right, .int i_this_mended, .int i_this_mask, .int i_this_turned, .ref a_this_word, .ref a_this_gone, .ref a_this_lines, .ref a_this_places, .ref a_this_square])), (a_this_gone, .inl (cZ, n_this_gone, .inl f_this_gone)), (a_this_places, .inl (cI, n_this_places, .inl f_this_places))] sz)) 0 0 (va_A [(a_this, .inr (4, [.int i_this_thrown, .int i_this_kind, .int i_this_form, .ref a_this_bits, .ref a_this_values, .ref a_this_has, .int i_this_fields, .int i_this_checks, .int i_this_symbols, .ref a_this_row, .int i_this_size, .ref a_this_seen, .int i_this_many, .ref a_this_told, .int i_this_right, .int i_this_mended, .int i_this_mask, .int i_this_turned, .ref a_this_word, .ref a_this_gone, .ref a_this_lines, .ref a_this_places, .ref a_this_square])), (a_this_gone, .inl (cZ, n_this_gone, .inl f_this_gone)), (a_this_places, .inl (cI, n_this_places, .inl f_this_places))] sz) := by
  refine Met.ofW (cc := cX5_begin) (maxL := 5) (ret := none) (by decide) rfl ?_
  intro p e s m args below meth c s₁ B hml hv
  obtain ⟨eargs, hsz, hP, hK, hD0⟩ := hv
  have hx := B.exec
  have hb := B.bytes
  have hr := B.returns
  have hts := atoms_spec (ws := wsX5_begin) B.pre
  have hown : s.vm.findClass RX5 = some m.cls := findClass_of_methodNamed B.named
  have hlocks := B.notSynchronized
  refine im_Q (fun Q eQ => ?_)
  subst hsz
  have hD := hD0.self (sz := s.heap.size)
  generalize hAe : va_A [(a_this, .inr (4, [.int i_this_thrown, .int i_this_kind, .int i_this_form, .ref a_this_bits, .ref a_this_values, .ref a_this_has, .int i_this_fields, .int i_this_checks, .int i_this_symbols, .ref a_this_row, .int i_this_size, .ref a_this_seen, .int i_this_many, .ref a_this_told, .int i_this_right, .int i_this_mended, .int i_this_mask, .int i_this_turned, .ref a_this_word, .ref a_this_gone, .ref a_this_lines, .ref a_this_places, .ref a_this_square])), (a_this_gone, .inl (cZ, n_this_gone, .inl f_this_gone)), (a_this_places, .inl (cI, n_this_places, .inl f_this_places))] s.heap.size = A at hD eQ
  have hA : ∀ q : Nat, s.heap.size ≤ q → A q := fun q h => by rw [← hAe]; exact Or.inr h
  have hS : va_S A s.heap s.heap [] := va_S.rf
  have hl := lv_entry [.ref a_this, .int x0, .int x1] (n := 5) (Nat.le_of_ble_eq_true rfl)
  rw [show entryFrame m args 5 = entryFrame m ([.ref a_this, .int x0, .int x1] : List Value).toArray 5 by rw [eargs], lg_entry_eq]
  generalize (lg_sl ([.ref a_this, .int x0, .int x1]) ++ List.replicate (5 - (lg_sl ([.ref a_this, .int x0, .int x1])).length) Slot.unset).toArray = ls at hl ⊢
  have hl : lv_has ls 5 [(0, .ref a_this), (1, .int x0), (2, .int x1)] := hl
  rw [im_X5_begin] at h
  refine lv_iconst (v := (0 : Int32)) hx hb dX5_begin_0 (by decide) ?_
  refine lv_istore_n (lv' := [(3, .int (0 : Int32)), (0, .ref a_this), (1, .int x0), (2, .int x1)]) hx hb dX5_begin_1 rfl hl (by decide) rfl (fun ls hl => ?_)
  refine lv_iconst (v := (0 : Int32)) hx hb dX5_begin_2 (by decide) ?_
  refine lv_istore (lv' := [(4, .int (0 : Int32)), (3, .int (0 : Int32)), (0, .ref a_this), (1, .int x0), (2, .int x1)]) hx hb dX5_begin_3 hl (by decide) rfl (fun ls hl => ?_)
  refine im_j2_u (P := fun v1 f2 => ∀ (H : Heap) (locs : List Loc) (ls : Array Slot), va_P (dC, dI) vwCl [(a_this, .inr (4, [.int i_this_thrown, .int i_this_kind, .int i_this_form, .ref a_this_bits, .ref a_this_values, .ref a_this_has, .int i_this_fields, .int i_this_checks, .int i_this_symbols, .ref a_this_row, .int i_this_size, .ref a_this_seen, .int i_this_many, .ref a_this_told, .int i_this_right, .int i_this_mended, .int i_this_mask, .int i_this_turned, .ref a_this_word, .ref a_this_gone, .ref a_this_lines, .ref a_this_places, .ref a_this_square])), (a_this_gone, .inl (cZ, n_this_gone, .inl f_this_gone)), (a_this_places, .inl (cI, n_this_places, .inl f2))] H → va_D A [(a_this, .inr (4, [.int i_this_thrown, .int i_this_kind, .int i_this_form, .ref a_this_bits, .ref a_this_values, .ref a_this_has, .int i_this_fields, .int i_this_checks, .int i_this_symbols, .ref a_this_row, .int i_this_size, .ref a_this_seen, .int i_this_many, .ref a_this_told, .int i_this_right, .int i_this_mended, .int i_this_mask, .int i_this_turned, .ref a_this_word, .ref a_this_gone, .ref a_this_lines, .ref a_this_places, .ref a_this_square])), (a_this_gone, .inl (cZ, n_this_gone, .inl f_this_gone)), (a_this_places, .inl (cI, n_this_places, .inl f2))] → va_S A s.heap H locs → lv_has ls 5 [(0, .ref a_this), (1, .int x0), (2, .int x1), (3, .int v1)] → W p l e (headSpec wsX5_begin rm_X5_begin).room s m args below meth c H locs 0 0 Q (F0 m 41 ls [])) h (fun v1 f2 h H locs ls hP hD hS hl => ?_) (fun K3 J3 h => ?_)
  · refine lv_iconst (v := (0 : Int32)) hx hb dX5_begin_41 (by decide) ?_
    refine lv_istore (lv' := [(4, .int (0 : Int32)), (0, .ref a_this), (1, .int x0), (2, .int x1), (3, .int v1)]) hx hb dX5_begin_42 hl (by decide) rfl (fun ls hl => ?_)
    have Lp7 : ∀ (n : Nat) (v4 : Int32) (v5 : Int32) (f6 : Nat → Int32), im_X5_begin_L44 x0 x1 n_this_gone f_this_gone n_this_places n v4 v5 f6 = some r → ∀ (H : Heap) (locs : List Loc) (ls : Array Slot), va_P (dC, dI) vwCl [(a_this, .inr (4, [.int i_this_thrown, .int i_this_kind, .int i_this_form, .ref a_this_bits, .ref a_this_values, .ref a_this_has, .int i_this_fields, .int i_this_checks, .int i_this_symbols, .ref a_this_row, .int i_this_size, .ref a_this_seen, .int i_this_many, .ref a_this_told, .int i_this_right, .int i_this_mended, .int i_this_mask, .int i_this_turned, .ref a_this_word, .ref a_this_gone, .ref a_this_lines, .ref a_this_places, .ref a_this_square])), (a_this_gone, .inl (cZ, n_this_gone, .inl f_this_gone)), (a_this_places, .inl (cI, n_this_places, .inl f6))] H → va_D A [(a_this, .inr (4, [.int i_this_thrown, .int i_this_kind, .int i_this_form, .ref a_this_bits, .ref a_this_values, .ref a_this_has, .int i_this_fields, .int i_this_checks, .int i_this_symbols, .ref a_this_row, .int i_this_size, .ref a_this_seen, .int i_this_many, .ref a_this_told, .int i_this_right, .int i_this_mended, .int i_this_mask, .int i_this_turned, .ref a_this_word, .ref a_this_gone, .ref a_this_lines, .ref a_this_places, .ref a_this_square])), (a_this_gone, .inl (cZ, n_this_gone, .inl f_this_gone)), (a_this_places, .inl (cI, n_this_places, .inl f6))] → va_S A s.heap H locs → lv_has ls 5 [(0, .ref a_this), (1, .int x0), (2, .int x1), (3, .int v4), (4, .int v5)] → W p l e (headSpec wsX5_begin rm_X5_begin).room s m args below meth c H locs 0 0 Q (F0 m 44 ls []) := by
      intro n
      induction n with
      | zero => intro v4 v5 f6 h; rw [im_X5_begin_L44] at h; cases h
      | succ n ih =>
        intro v4 v5 f6 h H locs ls hP hD hS hl
        rw [im_X5_begin_L44] at h
        refine lv_iload_n hx hb dX5_begin_44 rfl (lv_at hl 3 rfl) ?_
        refine lv_iload_n hx hb dX5_begin_45 rfl (lv_at hl 1 rfl) ?_
        refine lv_iload_n hx hb dX5_begin_46 rfl (lv_at hl 2 rfl) ?_
        refine lv_iadd hx hb dX5_begin_47 ?_
        refine lv_topi (fun v8 ev8 => ?_)
        replace h := im_lt_u h v8 ev8
        refine lv_icmp_ge (tgt := 78) hx hb dX5_begin_48 (by decide) (fun c48 => ?_) (fun c48 => ?_)
        · replace h := im_t c48 h
          rw [eQ]
          exact W.vret hx hb hr (fun t ht hW => ⟨⟨f6, rfl, Option.some.inj h, by rw [ht]; exact hP, va_K.moved hW.alike hK, hD⟩, hS.F ht⟩) hS.2.2 dX5_begin_78
        · replace h := im_f c48 h
          refine im_j2_u (P := fun v9 f10 => ∀ (H : Heap) (locs : List Loc) (ls : Array Slot), va_P (dC, dI) vwCl [(a_this, .inr (4, [.int i_this_thrown, .int i_this_kind, .int i_this_form, .ref a_this_bits, .ref a_this_values, .ref a_this_has, .int i_this_fields, .int i_this_checks, .int i_this_symbols, .ref a_this_row, .int i_this_size, .ref a_this_seen, .int i_this_many, .ref a_this_told, .int i_this_right, .int i_this_mended, .int i_this_mask, .int i_this_turned, .ref a_this_word, .ref a_this_gone, .ref a_this_lines, .ref a_this_places, .ref a_this_square])), (a_this_gone, .inl (cZ, n_this_gone, .inl f_this_gone)), (a_this_places, .inl (cI, n_this_places, .inl f10))] H → va_D A [(a_this, .inr (4, [.int i_this_thrown, .int i_this_kind, .int i_this_form, .ref a_this_bits, .ref a_this_values, .ref a_this_has, .int i_this_fields, .int i_this_checks, .int i_this_symbols, .ref a_this_row, .int i_this_size, .ref a_this_seen, .int i_this_many, .ref a_this_told, .int i_this_right, .int i_this_mended, .int i_this_mask, .int i_this_turned, .ref a_this_word, .ref a_this_gone, .ref a_this_lines, .ref a_this_places, .ref a_this_square])), (a_this_gone, .inl (cZ, n_this_gone, .inl f_this_gone)), (a_this_places, .inl (cI, n_this_places, .inl f10))] → va_S A s.heap H locs → lv_has ls 5 [(0, .ref a_this), (1, .int x0), (2, .int x1), (3, .int v9), (4, .int v5)] → W p l e (headSpec wsX5_begin rm_X5_begin).room s m args below meth c H locs 0 0 Q (F0 m 72 ls [])) h (fun v9 f10 h H locs ls hP hD hS hl => ?_) (fun K11 J11 h => ?_)
          · obtain ⟨v12, ev12⟩ : ∃ y : Int32, y = (v5 + (1 : Int32)) := ⟨_, rfl⟩
            replace h := im_lt_u h v12 ev12
            refine lv_iinc (v := v12) (lv' := [(4, .int v12), (0, .ref a_this), (1, .int x0), (2, .int x1), (3, .int v9)]) hx hb dX5_begin_72 hl (k := 4) rfl (by rw [ev12]; rfl) (by decide) rfl (fun ls hl => ?_)
            refine lv_goto (tgt := 44) hx hb dX5_begin_75 (by decide) ?_
            exact ih v9 v12 f10 h _ _ _ hP hD hS (lv_sub hl [1, 2, 3, 4, 0] rfl)
          · refine lv_aload_n hx hb dX5_begin_51 rfl (lv_at hl 0 rfl) ?_
            refine va_get (D := (dC, dI)) (ci := 4) (v := .ref a_this_gone) (C := RX5) (T := TX5) (N := 23) hx hb hts hn_X5_begin_X5 hown hK hP 0 rfl rfl 19 (by decide) (hts _ fl_X5_begin_40) (fun _ h9 => h9) rfl dX5_begin_52 ?_
            refine lv_iload hx hb dX5_begin_55 (lv_at hl 4 rfl) ?_
            obtain ⟨q57, h⟩ := im_ld_u h
            refine va_zald hx hb hK hP 1 2 rfl rfl q57 dX5_begin_57 ?_
            refine lv_topi (fun v13 ev13 => ?_)
            replace h := h v13 ev13
            refine lv_if_ne (tgt := 72) hx hb dX5_begin_58 (by decide) (fun c58 => ?_) (fun c58 => ?_)
            · replace h := im_f c58 h
              exact J11 v4 f6 h _ _ _ hP hD hS (lv_sub hl [0, 1, 2, 3, 4] rfl)
            · replace h := im_t c58 h
              refine lv_aload_n hx hb dX5_begin_61 rfl (lv_at hl 0 rfl) ?_
              refine va_get (D := (dC, dI)) (ci := 4) (v := .ref a_this_places) (C := RX5) (T := TX5) (N := 23) hx hb hts hn_X5_begin_X5 hown hK hP 0 rfl rfl 21 (by decide) (hts _ fl_X5_begin_46) (fun _ h9 => h9) rfl dX5_begin_62 ?_
              refine lv_iload_n hx hb dX5_begin_65 rfl (lv_at hl 3 rfl) ?_
              refine lv_iload hx hb dX5_begin_66 (lv_at hl 4 rfl) ?_
              obtain ⟨q68, h⟩ := im_st_u h
              refine va_iast hx hb hK hP hD hS 2 0 rfl rfl q68 dX5_begin_68 (fun H locs hP hD hS => ?_)
              obtain ⟨f14, ef14⟩ : ∃ g : Nat → Int32, g = upd f6 v4.toNatClampNeg v5 := ⟨_, rfl⟩
              replace h := h f14 ef14
              rw [← ef14] at hP hD
              have hP : va_P (dC, dI) vwCl [(a_this, .inr (4, [.int i_this_thrown, .int i_this_kind, .int i_this_form, .ref a_this_bits, .ref a_this_values, .ref a_this_has, .int i_this_fields, .int i_this_checks, .int i_this_symbols, .ref a_this_row, .int i_this_size, .ref a_this_seen, .int i_this_many, .ref a_this_told, .int i_this_right, .int i_this_mended, .int i_this_mask, .int i_this_turned, .ref a_this_word, .ref a_this_gone, .ref a_this_lines, .ref a_this_places, .ref a_this_square])), (a_this_gone, .inl (cZ, n_this_gone, .inl f_this_gone)), (a_this_places, .inl (cI, n_this_places, .inl f14))] H := hP
              have hD : va_D A [(a_this, .inr (4, [.int i_this_thrown, .int i_this_kind, .int i_this_form, .ref a_this_bits, .ref a_this_values, .ref a_this_has, .int i_this_fields, .int i_this_checks, .int i_this_symbols, .ref a_this_row, .int i_this_size, .ref a_this_seen, .int i_this_many, .ref a_this_told, .int i_this_right, .int i_this_mended, .int i_this_mask, .int i_this_turned, .ref a_this_word, .ref a_this_gone, .ref a_this_lines, .ref a_this_places, .ref a_this_square])), (a_this_gone, .inl (cZ, n_this_gone, .inl f_this_gone)), (a_this_places, .inl (cI, n_this_places, .inl f14))] := hD
              obtain ⟨v15, ev15⟩ : ∃ y : Int32, y = (v4 + (1 : Int32)) := ⟨_, rfl⟩
              replace h := im_lt_u h v15 ev15
              refine lv_iinc (v := v15) (lv' := [(3, .int v15), (0, .ref a_this), (1, .int x0), (2, .int x1), (4, .int v5)]) hx hb dX5_begin_69 hl (k := 3) rfl (by rw [ev15]; rfl) (by decide) rfl (fun ls hl => ?_)
              exact J11 v15 f14 h _ _ _ hP hD hS (lv_sub hl [1, 2, 3, 0, 4] rfl)
    exact Lp7 5000 v1 (0 : Int32) f2 h _ _ _ hP hD hS (lv_sub hl [1, 2, 3, 4, 0] rfl)
  · have Lp19 : ∀ (n : Nat) (v16 : Int32) (v17 : Int32) (f18 : Nat → Int32), im_X5_begin_L5 i_this_symbols K3 n_this_gone f_this_gone n_this_places n v16 v17 f18 = some r → ∀ (H : Heap) (locs : List Loc) (ls : Array Slot), va_P (dC, dI) vwCl [(a_this, .inr (4, [.int i_this_thrown, .int i_this_kind, .int i_this_form, .ref a_this_bits, .ref a_this_values, .ref a_this_has, .int i_this_fields, .int i_this_checks, .int i_this_symbols, .ref a_this_row, .int i_this_size, .ref a_this_seen, .int i_this_many, .ref a_this_told, .int i_this_right, .int i_this_mended, .int i_this_mask, .int i_this_turned, .ref a_this_word, .ref a_this_gone, .ref a_this_lines, .ref a_this_places, .ref a_this_square])), (a_this_gone, .inl (cZ, n_this_gone, .inl f_this_gone)), (a_this_places, .inl (cI, n_this_places, .inl f18))] H → va_D A [(a_this, .inr (4, [.int i_this_thrown, .int i_this_kind, .int i_this_form, .ref a_this_bits, .ref a_this_values, .ref a_this_has, .int i_this_fields, .int i_this_checks, .int i_this_symbols, .ref a_this_row, .int i_this_size, .ref a_this_seen, .int i_this_many, .ref a_this_told, .int i_this_right, .int i_this_mended, .int i_this_mask, .int i_this_turned, .ref a_this_word, .ref a_this_gone, .ref a_this_lines, .ref a_this_places, .ref a_this_square])), (a_this_gone, .inl (cZ, n_this_gone, .inl f_this_gone)), (a_this_places, .inl (cI, n_this_places, .inl f18))] → va_S A s.heap H locs → lv_has ls 5 [(0, .ref a_this), (1, .int x0), (2, .int x1), (3, .int v16), (4, .int v17)] → W p l e (headSpec wsX5_begin rm_X5_begin).room s m args below meth c H locs 0 0 Q (F0 m 5 ls []) := by
      intro n
      induction n with
      | zero => intro v16 v17 f18 h; rw [im_X5_begin_L5] at h; cases h
      | succ n ih =>
        intro v16 v17 f18 h H locs ls hP hD hS hl
        rw [im_X5_begin_L5] at h
        refine lv_iload hx hb dX5_begin_5 (lv_at hl 4 rfl) ?_
        refine lv_aload_n hx hb dX5_begin_7 rfl (lv_at hl 0 rfl) ?_
        refine va_get (D := (dC, dI)) (ci := 4) (v := .int i_this_symbols) (C := RX5) (T := TX5) (N := 23) hx hb hts hn_X5_begin_X5 hown hK hP 0 rfl rfl 8 (by decide) (hts _ fl_X5_begin_65) (fun _ h9 => h9) rfl dX5_begin_8 ?_
        refine lv_icmp_ge (tgt := 41) hx hb dX5_begin_11 (by decide) (fun c11 => ?_) (fun c11 => ?_)
        · replace h := im_t c11 h
          exact J3 v16 f18 h _ _ _ hP hD hS (lv_sub hl [0, 1, 2, 3] rfl)
        · replace h := im_f c11 h
          refine im_j2_u (P := fun v20 f21 => ∀ (H : Heap) (locs : List Loc) (ls : Array Slot), va_P (dC, dI) vwCl [(a_this, .inr (4, [.int i_this_thrown, .int i_this_kind, .int i_this_form, .ref a_this_bits, .ref a_this_values, .ref a_this_has, .int i_this_fields, .int i_this_checks, .int i_this_symbols, .ref a_this_row, .int i_this_size, .ref a_this_seen, .int i_this_many, .ref a_this_told, .int i_this_right, .int i_this_mended, .int i_this_mask, .int i_this_turned, .ref a_this_word, .ref a_this_gone, .ref a_this_lines, .ref a_this_places, .ref a_this_square])), (a_this_gone, .inl (cZ, n_this_gone, .inl f_this_gone)), (a_this_places, .inl (cI, n_this_places, .inl f21))] H → va_D A [(a_this, .inr (4, [.int i_this_thrown, .int i_this_kind, .int i_this_form, .ref a_this_bits, .ref a_this_values, .ref a_this_has, .int i_this_fields, .int i_this_checks, .int i_this_symbols, .ref a_this_row, .int i_this_size, .ref a_this_seen, .int i_this_many, .ref a_this_told, .int i_this_right, .int i_this_mended, .int i_this_mask, .int i_this_turned, .ref a_this_word, .ref a_this_gone, .ref a_this_lines, .ref a_this_places, .ref a_this_square])), (a_this_gone, .inl (cZ, n_this_gone, .inl f_this_gone)), (a_this_places, .inl (cI, n_this_places, .inl f21))] → va_S A s.heap H locs → lv_has ls 5 [(0, .ref a_this), (1, .int x0), (2, .int x1), (3, .int v20), (4, .int v17)] → W p l e (headSpec wsX5_begin rm_X5_begin).room s m args below meth c H locs 0 0 Q (F0 m 35 ls [])) h (fun v20 f21 h H locs ls hP hD hS hl => ?_) (fun K22 J22 h => ?_)
          · obtain ⟨v23, ev23⟩ : ∃ y : Int32, y = (v17 + (1 : Int32)) := ⟨_, rfl⟩
            replace h := im_lt_u h v23 ev23
            refine lv_iinc (v := v23) (lv' := [(4, .int v23), (0, .ref a_this), (1, .int x0), (2, .int x1), (3, .int v20)]) hx hb dX5_begin_35 hl (k := 4) rfl (by rw [ev23]; rfl) (by decide) rfl (fun ls hl => ?_)
            refine lv_goto (tgt := 5) hx hb dX5_begin_38 (by decide) ?_
            exact ih v20 v23 f21 h _ _ _ hP hD hS (lv_sub hl [1, 2, 3, 4, 0] rfl)
          · refine lv_aload_n hx hb dX5_begin_14 rfl (lv_at hl 0 rfl) ?_
            refine va_get (D := (dC, dI)) (ci := 4) (v := .ref a_this_gone) (C := RX5) (T := TX5) (N := 23) hx hb hts hn_X5_begin_X5 hown hK hP 0 rfl rfl 19 (by decide) (hts _ fl_X5_begin_40) (fun _ h9 => h9) rfl dX5_begin_15 ?_
            refine lv_iload hx hb dX5_begin_18 (lv_at hl 4 rfl) ?_
            obtain ⟨q20, h⟩ := im_ld_u h
            refine va_zald hx hb hK hP 1 2 rfl rfl q20 dX5_begin_20 ?_
            refine lv_topi (fun v24 ev24 => ?_)
            replace h := h v24 ev24
            refine lv_if_eq (tgt := 35) hx hb dX5_begin_21 (by decide) (fun c21 => ?_) (fun c21 => ?_)
            · replace h := im_t c21 h
              exact J22 v16 f18 h _ _ _ hP hD hS (lv_sub hl [0, 1, 2, 3, 4] rfl)
            · replace h := im_f c21 h
              refine lv_aload_n hx hb dX5_begin_24 rfl (lv_at hl 0 rfl) ?_
              refine va_get (D := (dC, dI)) (ci := 4) (v := .ref a_this_places) (C := RX5) (T := TX5) (N := 23) hx hb hts hn_X5_begin_X5 hown hK hP 0 rfl rfl 21 (by decide) (hts _ fl_X5_begin_46) (fun _ h9 => h9) rfl dX5_begin_25 ?_
              refine lv_iload_n hx hb dX5_begin_28 rfl (lv_at hl 3 rfl) ?_
              refine lv_iload hx hb dX5_begin_29 (lv_at hl 4 rfl) ?_
              obtain ⟨q31, h⟩ := im_st_u h
              refine va_iast hx hb hK hP hD hS 2 0 rfl rfl q31 dX5_begin_31 (fun H locs hP hD hS => ?_)
              obtain ⟨f25, ef25⟩ : ∃ g : Nat → Int32, g = upd f18 v16.toNatClampNeg v17 := ⟨_, rfl⟩
              replace h := h f25 ef25
              rw [← ef25] at hP hD
              have hP : va_P (dC, dI) vwCl [(a_this, .inr (4, [.int i_this_thrown, .int i_this_kind, .int i_this_form, .ref a_this_bits, .ref a_this_values, .ref a_this_has, .int i_this_fields, .int i_this_checks, .int i_this_symbols, .ref a_this_row, .int i_this_size, .ref a_this_seen, .int i_this_many, .ref a_this_told, .int i_this_right, .int i_this_mended, .int i_this_mask, .int i_this_turned, .ref a_this_word, .ref a_this_gone, .ref a_this_lines, .ref a_this_places, .ref a_this_square])), (a_this_gone, .inl (cZ, n_this_gone, .inl f_this_gone)), (a_this_places, .inl (cI, n_this_places, .inl f25))] H := hP
              have hD : va_D A [(a_this, .inr (4, [.int i_this_thrown, .int i_this_kind, .int i_this_form, .ref a_this_bits, .ref a_this_values, .ref a_this_has, .int i_this_fields, .int i_this_checks, .int i_this_symbols, .ref a_this_row, .int i_this_size, .ref a_this_seen, .int i_this_many, .ref a_this_told, .int i_this_right, .int i_this_mended, .int i_this_mask, .int i_this_turned, .ref a_this_word, .ref a_this_gone, .ref a_this_lines, .ref a_this_places, .ref a_this_square])), (a_this_gone, .inl (cZ, n_this_gone, .inl f_this_gone)), (a_this_places, .inl (cI, n_this_places, .inl f25))] := hD
              obtain ⟨v26, ev26⟩ : ∃ y : Int32, y = (v16 + (1 : Int32)) := ⟨_, rfl⟩
              replace h := im_lt_u h v26 ev26
              refine lv_iinc (v := v26) (lv' := [(3, .int v26), (0, .ref a_this), (1, .int x0), (2, .int x1), (4, .int v17)]) hx hb dX5_begin_32 hl (k := 3) rfl (by rw [ev26]; rfl) (by decide) rfl (fun ls hl => ?_)
              exact J22 v26 f25 h _ _ _ hP hD hS (lv_sub hl [1, 2, 3, 0, 4] rfl)
    exact Lp19 5000 (0 : Int32) (0 : Int32) f_this_places h _ _ _ hP hD hS (lv_sub hl [2, 3, 4, 1, 0] rfl)
def im_X5_behind_L4 (i_this_symbols : Int32) (n_this_gone : Nat) (f_this_gone : Nat → Int32) : Nat → Int32 → Option (Int32)
  | 0, _ => none
  | n + 1, v2 => if i_this_symbols ≤ v2 then (some v2) else im_ld n_this_gone f_this_gone v2 (fun v4 => if v4 = 0 then (some v2) else im_lt (v2 + (1 : Int32)) (fun v5 => (im_X5_behind_L4 i_this_symbols n_this_gone f_this_gone n v5)))
def im_X5_behind (x0 : Int32) (i_this_symbols : Int32) (n_this_gone : Nat) (f_this_gone : Nat → Int32) : Option (Int32) := im_lt (x0 + (1 : Int32)) (fun v1 => (im_X5_behind_L4 i_this_symbols n_this_gone f_this_gone 5000 v1))
abbrev rm_X5_behind : Room := { frames := 0, cells := 0, slots := 0, locals := 0 }
theorem hn_X5_behind_X5 : ∀ w ∈ wsX50, w ∈ wsX5_behind := by decide +kernel
theorem fl_X5_behind_65 : Cond.fieldLink RX5 65 "BarCodesModel" "symbols" "I" ∈ wsX5_behind := by decide +kernel
theorem fl_X5_behind_40 : Cond.fieldLink RX5 40 "BarCodesModel" "gone" "[Z" ∈ wsX5_behind := by decide +kernel
set_option maxHeartbeats 4000000 in
set_option maxRecDepth 100000 in
theorem c_X5_behind (l : Launch) (dC : Nat → ClassId) (dI : Nat → Nat → Nat) (cI cJ cZ : ClassId) (a_this a_this_bits a_this_values a_this_has a_this_row a_this_seen a_this_told a_this_word a_this_gone a_this_lines a_this_places a_this_square : Nat) (i_this_thrown i_this_kind i_this_form i_this_fields i_this_checks i_this_symbols i_this_size i_this_many i_this_right i_this_mended i_this_mask i_this_turned : Int32) (n_this_gone : Nat) (f_this_gone : Nat → Int32) (x0 : Int32) {r : Int32} (h : im_X5_behind x0 i_this_symbols n_this_gone f_this_gone = some r) : Met l yX5_behind wsX5_behind rm_X5_behind (va_Pc [.ref a_this, .int x0] (fun U => va_P (dC, dI) vwCl [(a_this, .inr (4, [.int i_this_thrown, .int i_this_kind, .int i_this_form, .ref a_this_bits, .ref a_this_values, .ref a_this_has, .int i_this_fields, .int i_this_checks, .int i_this_symbols, .ref a_this_row, .int i_this_size, .ref a_this_seen, .int i_this_many, .ref a_this_told, .int i_this_right, .int i_this_mended, .int i_this_mask, .int i_this_turned, .ref a_this_word, .ref a_this_gone, .ref a_this_lines, .ref a_this_places, .ref a_this_square])), (a_this_gone, .inl (cZ, n_this_gone, .inl f_this_gone))] U.heap ∧ va_K (dC, dI) vwCl [(cI, .int), (cJ, .long), (cZ, .boolean)] U)) (vp_Si (fun r9 => r9 = r)) 0 0 (fun _ => False) := by
  refine Met.ofW (cc := cX5_behind) (maxL := 3) (ret := (some .int)) (by decide) rfl ?_
  intro p e s m args below meth c s₁ B hml hv
  obtain ⟨eargs, hP, hK⟩ := hv
  have hx := B.exec
  have hb := B.bytes
  have hr := B.returns
  have hts := atoms_spec (ws := wsX5_behind) B.pre
  have hown : s.vm.findClass RX5 = some m.cls := findClass_of_methodNamed B.named
  have hlocks := B.notSynchronized
  refine im_Q (fun Q eQ => ?_)
  have hl := lv_entry [.ref a_this, .int x0] (n := 3) (Nat.le_of_ble_eq_true rfl)
  rw [show entryFrame m args 3 = entryFrame m ([.ref a_this, .int x0] : List Value).toArray 3 by rw [eargs], lg_entry_eq]
  generalize (lg_sl ([.ref a_this, .int x0]) ++ List.replicate (3 - (lg_sl ([.ref a_this, .int x0])).length) Slot.unset).toArray = ls at hl ⊢
  have hl : lv_has ls 3 [(0, .ref a_this), (1, .int x0)] := hl
  rw [im_X5_behind] at h
  refine lv_iload_n hx hb dX5_behind_0 rfl (lv_at hl 1 rfl) ?_
  refine lv_iconst (v := (1 : Int32)) hx hb dX5_behind_1 (by decide) ?_
  refine lv_iadd hx hb dX5_behind_2 ?_
  refine lv_topi (fun v1 ev1 => ?_)
  replace h := im_lt_u h v1 ev1
  refine lv_istore_n (lv' := [(2, .int v1), (0, .ref a_this), (1, .int x0)]) hx hb dX5_behind_3 rfl hl (by decide) rfl (fun ls hl => ?_)
  have Lp3 : ∀ (n : Nat) (v2 : Int32), im_X5_behind_L4 i_this_symbols n_this_gone f_this_gone n v2 = some r → ∀ (ls : Array Slot), lv_has ls 3 [(0, .ref a_this), (2, .int v2)] → W p l e (headSpec wsX5_behind rm_X5_behind).room s m args below meth c s.heap [] 0 0 Q (F0 m 4 ls []) := by
    intro n
    induction n with
    | zero => intro v2 h; rw [im_X5_behind_L4] at h; cases h
    | succ n ih =>
      intro v2 h ls hl
      rw [im_X5_behind_L4] at h
      refine lv_iload_n hx hb dX5_behind_4 rfl (lv_at hl 1 rfl) ?_
      refine lv_aload_n hx hb dX5_behind_5 rfl (lv_at hl 0 rfl) ?_
      refine va_get (D := (dC, dI)) (ci := 4) (v := .int i_this_symbols) (C := RX5) (T := TX5) (N := 23) hx hb hts hn_X5_behind_X5 hown hK hP 0 rfl rfl 8 (by decide) (hts _ fl_X5_behind_65) (fun _ h9 => h9) rfl dX5_behind_6 ?_
      refine lv_icmp_ge (tgt := 27) hx hb dX5_behind_9 (by decide) (fun c9 => ?_) (fun c9 => ?_)
      · replace h := im_t c9 h
        refine lv_iload_n hx hb dX5_behind_27 rfl (lv_at hl 1 rfl) ?_
        rw [eQ]
        exact W.iret (v := v2) hx hb hr (fun t ht hW => ⟨_, rfl, Option.some.inj h, ht⟩) (fun _ h9 => by cases h9) dX5_behind_28
      · replace h := im_f c9 h
        refine lv_aload_n hx hb dX5_behind_12 rfl (lv_at hl 0 rfl) ?_
        refine va_get (D := (dC, dI)) (ci := 4) (v := .ref a_this_gone) (C := RX5) (T := TX5) (N := 23) hx hb hts hn_X5_behind_X5 hown hK hP 0 rfl rfl 19 (by decide) (hts _ fl_X5_behind_40) (fun _ h9 => h9) rfl dX5_behind_13 ?_
        refine lv_iload_n hx hb dX5_behind_16 rfl (lv_at hl 1 rfl) ?_
        obtain ⟨q17, h⟩ := im_ld_u h
        refine va_zald hx hb hK hP 1 2 rfl rfl q17 dX5_behind_17 ?_
        refine lv_topi (fun v4 ev4 => ?_)
        replace h := h v4 ev4
        refine lv_if_eq (tgt := 27) hx hb dX5_behind_18 (by decide) (fun c18 => ?_) (fun c18 => ?_)
        · replace h := im_t c18 h
          refine lv_iload_n hx hb dX5_behind_27 rfl (lv_at hl 1 rfl) ?_
          rw [eQ]
          exact W.iret (v := v2) hx hb hr (fun t ht hW => ⟨_, rfl, Option.some.inj h, ht⟩) (fun _ h9 => by cases h9) dX5_behind_28
        · replace h := im_f c18 h
          obtain ⟨v5, ev5⟩ : ∃ y : Int32, y = (v2 + (1 : Int32)) := ⟨_, rfl⟩
          replace h := im_lt_u h v5 ev5
          refine lv_iinc (v := v5) (lv' := [(2, .int v5), (0, .ref a_this)]) hx hb dX5_behind_21 hl (k := 1) rfl (by rw [ev5]; rfl) (by decide) rfl (fun ls hl => ?_)
          refine lv_goto (tgt := 4) hx hb dX5_behind_24 (by decide) ?_
          exact ih v5 h _ (lv_sub hl [1, 0] rfl)
  exact Lp3 5000 v1 h _ (lv_sub hl [1, 0] rfl)
def im_X5_next_L34 (x0 : Int32) (x1 : Int32) (K11 : Int32 → (Nat → Int32) → Option (Int32 × (Nat → Int32))) (i_this_symbols : Int32) (n_this_places : Nat) (n_this_gone : Nat) (f_this_gone : Nat → Int32) : Nat → Int32 → Int32 → (Nat → Int32) → Option (Int32 × (Nat → Int32))
  | 0, _, _, _ => none
  | n + 1, v16, v17, f18 => im_lt (x0 + x1) (fun v20 => if v20 ≤ v17 then (K11 v17 f18) else if i_this_symbols ≤ v16 then (K11 v17 f18) else im_st n_this_places f18 v17 v16 (fun f21 => im_b1 (im_X5_behind v16 i_this_symbols n_this_gone f_this_gone) (fun v22 => im_lt (v17 + (1 : Int32)) (fun v23 => (im_X5_next_L34 x0 x1 K11 i_this_symbols n_this_places n_this_gone f_this_gone n v22 v23 f21)))))
def im_X5_next_L9 (x0 : Int32) (n_this_places : Nat) (i_this_symbols : Int32) (n_this_gone : Nat) (f_this_gone : Nat → Int32) (x1 : Int32) : Nat → Int32 → Int32 → (Nat → Int32) → Option (Int32 × (Nat → Int32))
  | 0, _, _, _ => none
  | n + 1, v3, v4, f5 => if v3 < x0 then im_as (v4 = 0 ∨ v4 = 1) ((some (v4, f5))) else if v4 = 0 then im_ld n_this_places f5 v3 (fun v7 => im_b1 (im_X5_behind v7 i_this_symbols n_this_gone f_this_gone) (fun v8 => im_j2 (fun (v9 : Int32) (f10 : Nat → Int32) => im_j1 (fun (v12 : Int32) => im_lt (v3 + (-1 : Int32)) (fun v14 => (im_X5_next_L9 x0 n_this_places i_this_symbols n_this_gone f_this_gone x1 n v14 v12 f10))) (fun K13 => im_lt (x0 + x1) (fun v15 => if v9 = v15 then (K13 (1 : Int32)) else (K13 (0 : Int32))))) (fun K11 => (im_X5_next_L34 x0 x1 K11 i_this_symbols n_this_places n_this_gone f_this_gone 5000 v8 v3 f5)))) else im_as (v4 = 0 ∨ v4 = 1) ((some (v4, f5)))
def im_X5_next (x0 : Int32) (x1 : Int32) (i_this_symbols : Int32) (n_this_gone : Nat) (n_this_places : Nat) (f_this_gone : Nat → Int32) (f_this_places : Nat → Int32) : Option (Int32 × (Nat → Int32)) := im_lt (x0 + x1) (fun v1 => im_lt (v1 - (1 : Int32)) (fun v2 => (im_X5_next_L9 x0 n_this_places i_this_symbols n_this_gone f_this_gone x1 5000 v2 (0 : Int32) f_this_places)))
abbrev rm_X5_next : Room := { frames := 1, cells := 0, slots := 0, locals := 22 }
theorem hn_X5_next_X5 : ∀ w ∈ wsX50, w ∈ wsX5_next := by decide +kernel
theorem fl_X5_next_46 : Cond.fieldLink RX5 46 "BarCodesModel" "places" "[I" ∈ wsX5_next := by decide +kernel
theorem fl_X5_next_65 : Cond.fieldLink RX5 65 "BarCodesModel" "symbols" "I" ∈ wsX5_next := by decide +kernel
set_option maxHeartbeats 4000000 in
set_option maxRecDepth 100000 in
theorem c_X5_next (l : Launch) (dC : Nat → ClassId) (dI : Nat → Nat → Nat) (cI cJ cZ : ClassId) (sz : Nat) (a_this a_this_bits a_this_values a_this_has a_this_row a_this_seen a_this_told a_this_word a_this_gone a_this_lines a_this_places a_this_square : Nat) (i_this_thrown i_this_kind i_this_form i_this_fields i_this_checks i_this_symbols i_this_size i_this_many i_this_right i_this_mended i_this_mask i_this_turned : Int32) (n_this_gone n_this_places : Nat) (f_this_gone : Nat → Int32) (f_this_places : Nat → Int32) (x0 : Int32) (x1 : Int32) {r : Int32 × (Nat → Int32)} (h : im_X5_next x0 x1 i_this_symbols n_this_gone n_this_places f_this_gone f_this_places = some r) : Met l yX5_next wsX5_next rm_X5_next (va_Pc [.ref a_this, .int x0, .int x1] (fun U => U.heap.size = sz ∧ va_P (dC, dI) vwCl [(a_this, .inr (4, [.int i_this_thrown, .int i_this_kind, .int i_this_form, .ref a_this_bits, .ref a_this_values, .ref a_this_has, .int i_this_fields, .int i_this_checks, .int i_this_symbols, .ref a_this_row, .int i_this_size, .ref a_this_seen, .int i_this_many, .ref a_this_told, .int i_this_right, .int i_this_mended, .int i_this_mask, .int i_this_turned, .ref a_this_word, .ref a_this_gone, .ref a_this_lines, .ref a_this_places, .ref a_this_square])), (a_this_gone, .inl (cZ, n_this_gone, .inl f_this_gone)), (a_this_places, .inl (cI, n_this_places, .inl f_this_places))] U.heap ∧ va_K (dC, dI) vwCl [(cI, .int), (cJ, .long), (cZ, .boolean)] U ∧ va_D (fun _ => True) [(a_this, .inr (4, [.int i_this_thrown, .int i_this_kind, .int i_this_form, .ref a_this_bits, .ref a_this_values, .ref a_this_has, .int i_this_fields, .int i_this_checks, .int i_this_symbols, .ref a_this_row, .int i_this_size, .ref a_this_seen, .int i_this_many, .ref a_this_told, .int i_this_right, .int i_this_mended, .int i_this_mask, .int i_this_turned, .ref a_this_word, .ref a_this_gone, .ref a_this_lines, .ref a_this_places, .ref a_this_square])), (a_this_gone, .inl (cZ, n_this_gone, .inl f_this_gone)), (a_this_places, .inl (cI, n_this_places, .inl f_this_places))])) (va_Qi (S := (Nat → Int32)) (fun r9 u9 => (r9, u9) = r) (fun u9 t9 => va_P (dC, dI) vwCl [(a_this, .inr (4, [.int i_this_thrown, .int i_this_kind, .int i_this_form, .ref a_this_bits, .ref a_this_values, .ref a_this_has, .int i_this_fields, .int i_this_checks, .int i_this_symbols, .ref a_this_row, .int i_this_size, .ref a_this_seen, .int i_this_many, .ref a_this_told, .int i_this_right, .int i_this_mended, .int i_this_mask, .int i_this_turned, .ref a_this_word, .ref a_this_gone, .ref a_this_lines, .ref a_this_places, .ref a_this_square])), (a_this_gone, .inl (cZ, n_this_gone, .inl f_this_gone)), (a_this_places, .inl (cI, n_this_places, .inl (u9)))] t9.heap ∧ va_K (dC, dI) vwCl [(cI, .int), (cJ, .long), (cZ, .boolean)] t9 ∧ va_D (va_A [(a_this, .inr (4, [.int i_this_thrown, .int i_this_kind, .int i_this_form, .ref a_this_bits, .ref a_this_values, .ref a_this_has, .int i_this_fields, .int i_this_checks, .int i_this_symbols, .ref a_this_row, .int i_this_size, .ref a_this_seen, .int i_this_many, .ref a_this_told, .int i_this_right, .int i_this_mended, .int i_this_mask, .int i_this_turned, .ref a_this_word, .ref a_this_gone, .ref a_this_lines, .ref a_this_places, .ref a_this_square])), (a_this_gone, .inl (cZ, n_this_gone, .inl f_this_gone)), (a_this_places, .inl (cI, n_this_places, .inl f_this_places))] sz) [(a_this, .inr (4, [.int i_this_thrown, .int i_this_kind, .int i_this_form, .ref a_this_bits, .ref a_this_values, .ref a_this_has, .int i_this_fields, .int i_this_checks, .int i_this_symbols, .ref a_this_row, .int i_this_size, .ref a_this_seen, .int i_this_many, .ref a_this_told, .int i_this_right, .int i_this_mended, .int i_this_mask, .int i_this_turned, .ref a_this_word, .ref a_this_gone, .ref a_this_lines, .ref a_this_places, .ref a_this_square])), (a_this_gone, .inl (cZ, n_this_gone, .inl f_this_gone)), (a_this_places, .inl (cI, n_this_places, .inl (u9)))]) (va_A [(a_this, .inr (4, [.int i_this_thrown, .int i_this_kind, .int i_this_form, .ref a_this_bits, .ref a_this_values, .ref a_this_has, .int i_this_fields, .int i_this_checks, .int i_this_symbols, .ref a_this_row, .int i_this_size, .ref a_this_seen, .int i_this_many, .ref a_this_told, .int i_this_right, .int i_this_mended, .int i_this_mask, .int i_this_turned, .ref a_this_word, .ref a_this_gone, .ref a_this_lines, .ref a_this_places, .ref a_this_square])), (a_this_gone, .inl (cZ, n_this_gone, .inl f_this_gone)), (a_this_places, .inl (cI, n_this_places, .inl f_this_places))] sz)) 0 0 (va_A [(a_this, .inr (4, [.int i_this_thrown, .int i_this_kind, .int i_this_form, .ref a_this_bits, .ref a_this_values, .ref a_this_has, .int i_this_fields, .int i_this_checks, .int i_this_symbols, .ref a_this_row, .int i_this_size, .ref a_this_seen, .int i_this_many, .ref a_this_told, .int i_this_right, .int i_this_mended, .int i_this_mask, .int i_this_turned, .ref a_this_word, .ref a_this_gone, .ref a_this_lines, .ref a_this_places, .ref a_this_square])), (a_this_gone, .inl (cZ, n_this_gone, .inl f_this_gone)), (a_this_places, .inl (cI, n_this_places, .inl f_this_places))] sz) := by
  refine Met.ofW (cc := cX5_next) (maxL := 7) (ret := (some .boolean)) (by decide) rfl ?_
  intro p e s m args below meth c s₁ B hml hv
  obtain ⟨eargs, hsz, hP, hK, hD0⟩ := hv
  have hx := B.exec
  have hb := B.bytes
  have hr := B.returns
  have hts := atoms_spec (ws := wsX5_next) B.pre
  have hown : s.vm.findClass RX5 = some m.cls := findClass_of_methodNamed B.named
  have hlocks := B.notSynchronized
  refine im_Q (fun Q eQ => ?_)
  subst hsz
  have hD := hD0.self (sz := s.heap.size)
  generalize hAe : va_A [(a_this, .inr (4, [.int i_this_thrown, .int i_this_kind, .int i_this_form, .ref a_this_bits, .ref a_this_values, .ref a_this_has, .int i_this_fields, .int i_this_checks, .int i_this_symbols, .ref a_this_row, .int i_this_size, .ref a_this_seen, .int i_this_many, .ref a_this_told, .int i_this_right, .int i_this_mended, .int i_this_mask, .int i_this_turned, .ref a_this_word, .ref a_this_gone, .ref a_this_lines, .ref a_this_places, .ref a_this_square])), (a_this_gone, .inl (cZ, n_this_gone, .inl f_this_gone)), (a_this_places, .inl (cI, n_this_places, .inl f_this_places))] s.heap.size = A at hD eQ
  have hA : ∀ q : Nat, s.heap.size ≤ q → A q := fun q h => by rw [← hAe]; exact Or.inr h
  have hS : va_S A s.heap s.heap [] := va_S.rf
  have hl := lv_entry [.ref a_this, .int x0, .int x1] (n := 7) (Nat.le_of_ble_eq_true rfl)
  rw [show entryFrame m args 7 = entryFrame m ([.ref a_this, .int x0, .int x1] : List Value).toArray 7 by rw [eargs], lg_entry_eq]
  generalize (lg_sl ([.ref a_this, .int x0, .int x1]) ++ List.replicate (7 - (lg_sl ([.ref a_this, .int x0, .int x1])).length) Slot.unset).toArray = ls at hl ⊢
  have hl : lv_has ls 7 [(0, .ref a_this), (1, .int x0), (2, .int x1)] := hl
  rw [im_X5_next] at h
  refine lv_iload_n hx hb dX5_next_0 rfl (lv_at hl 1 rfl) ?_
  refine lv_iload_n hx hb dX5_next_1 rfl (lv_at hl 2 rfl) ?_
  refine lv_iadd hx hb dX5_next_2 ?_
  refine lv_topi (fun v1 ev1 => ?_)
  replace h := im_lt_u h v1 ev1
  refine lv_iconst (v := (1 : Int32)) hx hb dX5_next_3 (by decide) ?_
  refine lv_isub hx hb dX5_next_4 ?_
  refine lv_topi (fun v2 ev2 => ?_)
  replace h := im_lt_u h v2 ev2
  refine lv_istore_n (lv' := [(3, .int v2), (0, .ref a_this), (1, .int x0), (2, .int x1)]) hx hb dX5_next_5 rfl hl (by decide) rfl (fun ls hl => ?_)
  refine lv_iconst (v := (0 : Int32)) hx hb dX5_next_6 (by decide) ?_
  refine lv_istore (lv' := [(4, .int (0 : Int32)), (3, .int v2), (0, .ref a_this), (1, .int x0), (2, .int x1)]) hx hb dX5_next_7 hl (by decide) rfl (fun ls hl => ?_)
  have Lp6 : ∀ (n : Nat) (v3 : Int32) (v4 : Int32) (f5 : Nat → Int32), im_X5_next_L9 x0 n_this_places i_this_symbols n_this_gone f_this_gone x1 n v3 v4 f5 = some r → ∀ (H : Heap) (locs : List Loc) (ls : Array Slot), va_P (dC, dI) vwCl [(a_this, .inr (4, [.int i_this_thrown, .int i_this_kind, .int i_this_form, .ref a_this_bits, .ref a_this_values, .ref a_this_has, .int i_this_fields, .int i_this_checks, .int i_this_symbols, .ref a_this_row, .int i_this_size, .ref a_this_seen, .int i_this_many, .ref a_this_told, .int i_this_right, .int i_this_mended, .int i_this_mask, .int i_this_turned, .ref a_this_word, .ref a_this_gone, .ref a_this_lines, .ref a_this_places, .ref a_this_square])), (a_this_gone, .inl (cZ, n_this_gone, .inl f_this_gone)), (a_this_places, .inl (cI, n_this_places, .inl f5))] H → va_D A [(a_this, .inr (4, [.int i_this_thrown, .int i_this_kind, .int i_this_form, .ref a_this_bits, .ref a_this_values, .ref a_this_has, .int i_this_fields, .int i_this_checks, .int i_this_symbols, .ref a_this_row, .int i_this_size, .ref a_this_seen, .int i_this_many, .ref a_this_told, .int i_this_right, .int i_this_mended, .int i_this_mask, .int i_this_turned, .ref a_this_word, .ref a_this_gone, .ref a_this_lines, .ref a_this_places, .ref a_this_square])), (a_this_gone, .inl (cZ, n_this_gone, .inl f_this_gone)), (a_this_places, .inl (cI, n_this_places, .inl f5))] → va_S A s.heap H locs → lv_has ls 7 [(0, .ref a_this), (1, .int x0), (2, .int x1), (3, .int v3), (4, .int v4)] → W p l e (headSpec wsX5_next rm_X5_next).room s m args below meth c H locs 0 0 Q (F0 m 9 ls []) := by
    intro n
    induction n with
    | zero => intro v3 v4 f5 h; rw [im_X5_next_L9] at h; cases h
    | succ n ih =>
      intro v3 v4 f5 h H locs ls hP hD hS hl
      rw [im_X5_next_L9] at h
      refine lv_iload_n hx hb dX5_next_9 rfl (lv_at hl 3 rfl) ?_
      refine lv_iload_n hx hb dX5_next_10 rfl (lv_at hl 1 rfl) ?_
      refine lv_icmp_lt (tgt := 95) hx hb dX5_next_11 (by decide) (fun c11 => ?_) (fun c11 => ?_)
      · replace h := im_t c11 h
        refine lv_iload hx hb dX5_next_95 (lv_at hl 4 rfl) ?_
        obtain ⟨z97, h⟩ := im_as_u h
        rw [eQ]
        exact W.zret (ty := .boolean) (v := v4) hx hb hr (im_nz z97) (fun t ht hW => ⟨⟨_, f5, rfl, Option.some.inj h, by rw [ht]; exact hP, va_K.moved hW.alike hK, hD⟩, hS.F ht⟩) hS.2.2 dX5_next_97
      · replace h := im_f c11 h
        refine lv_iload hx hb dX5_next_14 (lv_at hl 4 rfl) ?_
        refine lv_if_ne (tgt := 95) hx hb dX5_next_16 (by decide) (fun c16 => ?_) (fun c16 => ?_)
        · replace h := im_f c16 h
          refine lv_iload hx hb dX5_next_95 (lv_at hl 4 rfl) ?_
          obtain ⟨z97, h⟩ := im_as_u h
          rw [eQ]
          exact W.zret (ty := .boolean) (v := v4) hx hb hr (im_nz z97) (fun t ht hW => ⟨⟨_, f5, rfl, Option.some.inj h, by rw [ht]; exact hP, va_K.moved hW.alike hK, hD⟩, hS.F ht⟩) hS.2.2 dX5_next_97
        · replace h := im_t c16 h
          refine lv_aload_n hx hb dX5_next_19 rfl (lv_at hl 0 rfl) ?_
          refine lv_aload_n hx hb dX5_next_20 rfl (lv_at hl 0 rfl) ?_
          refine va_get (D := (dC, dI)) (ci := 4) (v := .ref a_this_places) (C := RX5) (T := TX5) (N := 23) hx hb hts hn_X5_next_X5 hown hK hP 0 rfl rfl 21 (by decide) (hts _ fl_X5_next_46) (fun _ h9 => h9) rfl dX5_next_21 ?_
          refine lv_iload_n hx hb dX5_next_24 rfl (lv_at hl 3 rfl) ?_
          obtain ⟨q25, h⟩ := im_ld_u h
          refine va_iald hx hb hK hP 2 0 rfl rfl q25 dX5_next_25 ?_
          refine lv_topi (fun v7 ev7 => ?_)
          replace h := h v7 ev7
          obtain ⟨v8, y26, h⟩ := im_b1_u h
          have hPc := hP.sub (ws' := [(a_this, .inr (4, [.int i_this_thrown, .int i_this_kind, .int i_this_form, .ref a_this_bits, .ref a_this_values, .ref a_this_has, .int i_this_fields, .int i_this_checks, .int i_this_symbols, .ref a_this_row, .int i_this_size, .ref a_this_seen, .int i_this_many, .ref a_this_told, .int i_this_right, .int i_this_mended, .int i_this_mask, .int i_this_turned, .ref a_this_word, .ref a_this_gone, .ref a_this_lines, .ref a_this_places, .ref a_this_square])), (a_this_gone, .inl (cZ, n_this_gone, .inl f_this_gone))]) [0, 1] rfl
          refine vp_callSi (W.runV (As := [.int v7]) (rest := []) ⟨hx, hb, hml, hown, hts⟩ (c_X5_behind l dC dI cI cJ cZ a_this a_this_bits a_this_values a_this_has a_this_row a_this_seen a_this_told a_this_word a_this_gone a_this_lines a_this_places a_this_square i_this_thrown i_this_kind i_this_form i_this_fields i_this_checks i_this_symbols i_this_size i_this_many i_this_right i_this_mended i_this_mask i_this_turned n_this_gone f_this_gone v7 y26) (cwV 1 hts gX5_next_X5_behind rfl rfl rfl (by decide +kernel) ⟨Nat.le_of_ble_eq_true rfl, Nat.le_of_ble_eq_true rfl⟩) ⟨fun a U g mk q => by obtain ⟨q0, qP, qK⟩ := q; exact ⟨q0, qP, va_K.moved (u := U) (U := U.calling g mk a) (Vm.Alike.refl U.vm) qK⟩, va_recv hK hPc (ci := 4) (q0 := 0) rfl rfl, fun U hU hW => ⟨rfl, by rw [hU]; exact hPc, va_K.moved hW.alike hK⟩⟩ rfl rfl hl.1 rfl (lv_room (Nat.le_of_ble_eq_true rfl)) dX5_next_26 ⟨Nat.zero_le _, Nat.zero_le _⟩) (fun w26 ew26 => ?_)
          have ew26 := ew26.symm
          subst ew26
          refine lv_istore (lv' := [(5, .int v8), (0, .ref a_this), (1, .int x0), (2, .int x1), (3, .int v3), (4, .int v4)]) hx hb dX5_next_29 hl (by decide) rfl (fun ls hl => ?_)
          refine lv_iload_n hx hb dX5_next_31 rfl (lv_at hl 4 rfl) ?_
          refine lv_istore (lv' := [(6, .int v3), (5, .int v8), (0, .ref a_this), (1, .int x0), (2, .int x1), (3, .int v3), (4, .int v4)]) hx hb dX5_next_32 hl (by decide) rfl (fun ls hl => ?_)
          refine im_j2_u (P := fun v9 f10 => ∀ (H : Heap) (locs : List Loc) (ls : Array Slot), va_P (dC, dI) vwCl [(a_this, .inr (4, [.int i_this_thrown, .int i_this_kind, .int i_this_form, .ref a_this_bits, .ref a_this_values, .ref a_this_has, .int i_this_fields, .int i_this_checks, .int i_this_symbols, .ref a_this_row, .int i_this_size, .ref a_this_seen, .int i_this_many, .ref a_this_told, .int i_this_right, .int i_this_mended, .int i_this_mask, .int i_this_turned, .ref a_this_word, .ref a_this_gone, .ref a_this_lines, .ref a_this_places, .ref a_this_square])), (a_this_gone, .inl (cZ, n_this_gone, .inl f_this_gone)), (a_this_places, .inl (cI, n_this_places, .inl f10))] H → va_D A [(a_this, .inr (4, [.int i_this_thrown, .int i_this_kind, .int i_this_form, .ref a_this_bits, .ref a_this_values, .ref a_this_has, .int i_this_fields, .int i_this_checks, .int i_this_symbols, .ref a_this_row, .int i_this_size, .ref a_this_seen, .int i_this_many, .ref a_this_told, .int i_this_right, .int i_this_mended, .int i_this_mask, .int i_this_turned, .ref a_this_word, .ref a_this_gone, .ref a_this_lines, .ref a_this_places, .ref a_this_square])), (a_this_gone, .inl (cZ, n_this_gone, .inl f_this_gone)), (a_this_places, .inl (cI, n_this_places, .inl f10))] → va_S A s.heap H locs → lv_has ls 7 [(0, .ref a_this), (1, .int x0), (2, .int x1), (3, .int v3), (6, .int v9)] → W p l e (headSpec wsX5_next rm_X5_next).room s m args below meth c H locs 0 0 Q (F0 m 74 ls [])) h (fun v9 f10 h H locs ls hP hD hS hl => ?_) (fun K11 J11 h => ?_)
          · refine im_j1_u (P := fun v12 => ∀ (H : Heap) (locs : List Loc) (ls : Array Slot), va_P (dC, dI) vwCl [(a_this, .inr (4, [.int i_this_thrown, .int i_this_kind, .int i_this_form, .ref a_this_bits, .ref a_this_values, .ref a_this_has, .int i_this_fields, .int i_this_checks, .int i_this_symbols, .ref a_this_row, .int i_this_size, .ref a_this_seen, .int i_this_many, .ref a_this_told, .int i_this_right, .int i_this_mended, .int i_this_mask, .int i_this_turned, .ref a_this_word, .ref a_this_gone, .ref a_this_lines, .ref a_this_places, .ref a_this_square])), (a_this_gone, .inl (cZ, n_this_gone, .inl f_this_gone)), (a_this_places, .inl (cI, n_this_places, .inl f10))] H → va_D A [(a_this, .inr (4, [.int i_this_thrown, .int i_this_kind, .int i_this_form, .ref a_this_bits, .ref a_this_values, .ref a_this_has, .int i_this_fields, .int i_this_checks, .int i_this_symbols, .ref a_this_row, .int i_this_size, .ref a_this_seen, .int i_this_many, .ref a_this_told, .int i_this_right, .int i_this_mended, .int i_this_mask, .int i_this_turned, .ref a_this_word, .ref a_this_gone, .ref a_this_lines, .ref a_this_places, .ref a_this_square])), (a_this_gone, .inl (cZ, n_this_gone, .inl f_this_gone)), (a_this_places, .inl (cI, n_this_places, .inl f10))] → va_S A s.heap H locs → lv_has ls 7 [(0, .ref a_this), (1, .int x0), (2, .int x1), (3, .int v3)] → W p l e (headSpec wsX5_next rm_X5_next).room s m args below meth c H locs 0 0 Q (F0 m 87 ls [.int v12])) h (fun v12 h H locs ls hP hD hS hl => ?_) (fun K13 J13 h => ?_)
            · refine lv_istore (lv' := [(4, .int v12), (0, .ref a_this), (1, .int x0), (2, .int x1), (3, .int v3)]) hx hb dX5_next_87 hl (by decide) rfl (fun ls hl => ?_)
              obtain ⟨v14, ev14⟩ : ∃ y : Int32, y = (v3 + (-1 : Int32)) := ⟨_, rfl⟩
              replace h := im_lt_u h v14 ev14
              refine lv_iinc (v := v14) (lv' := [(3, .int v14), (4, .int v12), (0, .ref a_this), (1, .int x0), (2, .int x1)]) hx hb dX5_next_89 hl (k := 4) rfl (by rw [ev14]; rfl) (by decide) rfl (fun ls hl => ?_)
              refine lv_goto (tgt := 9) hx hb dX5_next_92 (by decide) ?_
              exact ih v14 v12 f10 h _ _ _ hP hD hS (lv_sub hl [2, 3, 4, 0, 1] rfl)
            · refine lv_iload hx hb dX5_next_74 (lv_at hl 4 rfl) ?_
              refine lv_iload_n hx hb dX5_next_76 rfl (lv_at hl 1 rfl) ?_
              refine lv_iload_n hx hb dX5_next_77 rfl (lv_at hl 2 rfl) ?_
              refine lv_iadd hx hb dX5_next_78 ?_
              refine lv_topi (fun v15 ev15 => ?_)
              replace h := im_lt_u h v15 ev15
              refine lv_icmp_ne (tgt := 86) hx hb dX5_next_79 (by decide) (fun c79 => ?_) (fun c79 => ?_)
              · replace h := im_f c79 h
                refine lv_iconst (v := (0 : Int32)) hx hb dX5_next_86 (by decide) ?_
                exact J13 (0 : Int32) h _ _ _ hP hD hS (lv_sub hl [0, 1, 2, 3] rfl)
              · replace h := im_t c79 h
                refine lv_iconst (v := (1 : Int32)) hx hb dX5_next_82 (by decide) ?_
                refine lv_goto (tgt := 87) hx hb dX5_next_83 (by decide) ?_
                exact J13 (1 : Int32) h _ _ _ hP hD hS (lv_sub hl [0, 1, 2, 3] rfl)
          · have Lp19 : ∀ (n : Nat) (v16 : Int32) (v17 : Int32) (f18 : Nat → Int32), im_X5_next_L34 x0 x1 K11 i_this_symbols n_this_places n_this_gone f_this_gone n v16 v17 f18 = some r → ∀ (H : Heap) (locs : List Loc) (ls : Array Slot), va_P (dC, dI) vwCl [(a_this, .inr (4, [.int i_this_thrown, .int i_this_kind, .int i_this_form, .ref a_this_bits, .ref a_this_values, .ref a_this_has, .int i_this_fields, .int i_this_checks, .int i_this_symbols, .ref a_this_row, .int i_this_size, .ref a_this_seen, .int i_this_many, .ref a_this_told, .int i_this_right, .int i_this_mended, .int i_this_mask, .int i_this_turned, .ref a_this_word, .ref a_this_gone, .ref a_this_lines, .ref a_this_places, .ref a_this_square])), (a_this_gone, .inl (cZ, n_this_gone, .inl f_this_gone)), (a_this_places, .inl (cI, n_this_places, .inl f18))] H → va_D A [(a_this, .inr (4, [.int i_this_thrown, .int i_this_kind, .int i_this_form, .ref a_this_bits, .ref a_this_values, .ref a_this_has, .int i_this_fields, .int i_this_checks, .int i_this_symbols, .ref a_this_row, .int i_this_size, .ref a_this_seen, .int i_this_many, .ref a_this_told, .int i_this_right, .int i_this_mended, .int i_this_mask, .int i_this_turned, .ref a_this_word, .ref a_this_gone, .ref a_this_lines, .ref a_this_places, .ref a_this_square])), (a_this_gone, .inl (cZ, n_this_gone, .inl f_this_gone)), (a_this_places, .inl (cI, n_this_places, .inl f18))] → va_S A s.heap H locs → lv_has ls 7 [(0, .ref a_this), (1, .int x0), (2, .int x1), (3, .int v3), (5, .int v16), (6, .int v17)] → W p l e (headSpec wsX5_next rm_X5_next).room s m args below meth c H locs 0 0 Q (F0 m 34 ls []) := by
              intro n
              induction n with
              | zero => intro v16 v17 f18 h; rw [im_X5_next_L34] at h; cases h
              | succ n ih =>
                intro v16 v17 f18 h H locs ls hP hD hS hl
                rw [im_X5_next_L34] at h
                refine lv_iload hx hb dX5_next_34 (lv_at hl 5 rfl) ?_
                refine lv_iload_n hx hb dX5_next_36 rfl (lv_at hl 1 rfl) ?_
                refine lv_iload_n hx hb dX5_next_37 rfl (lv_at hl 2 rfl) ?_
                refine lv_iadd hx hb dX5_next_38 ?_
                refine lv_topi (fun v20 ev20 => ?_)
                replace h := im_lt_u h v20 ev20
                refine lv_icmp_ge (tgt := 74) hx hb dX5_next_39 (by decide) (fun c39 => ?_) (fun c39 => ?_)
                · replace h := im_t c39 h
                  exact J11 v17 f18 h _ _ _ hP hD hS (lv_sub hl [0, 1, 2, 3, 5] rfl)
                · replace h := im_f c39 h
                  refine lv_iload hx hb dX5_next_42 (lv_at hl 4 rfl) ?_
                  refine lv_aload_n hx hb dX5_next_44 rfl (lv_at hl 0 rfl) ?_
                  refine va_get (D := (dC, dI)) (ci := 4) (v := .int i_this_symbols) (C := RX5) (T := TX5) (N := 23) hx hb hts hn_X5_next_X5 hown hK hP 0 rfl rfl 8 (by decide) (hts _ fl_X5_next_65) (fun _ h9 => h9) rfl dX5_next_45 ?_
                  refine lv_icmp_ge (tgt := 74) hx hb dX5_next_48 (by decide) (fun c48 => ?_) (fun c48 => ?_)
                  · replace h := im_t c48 h
                    exact J11 v17 f18 h _ _ _ hP hD hS (lv_sub hl [0, 1, 2, 3, 5] rfl)
                  · replace h := im_f c48 h
                    refine lv_aload_n hx hb dX5_next_51 rfl (lv_at hl 0 rfl) ?_
                    refine va_get (D := (dC, dI)) (ci := 4) (v := .ref a_this_places) (C := RX5) (T := TX5) (N := 23) hx hb hts hn_X5_next_X5 hown hK hP 0 rfl rfl 21 (by decide) (hts _ fl_X5_next_46) (fun _ h9 => h9) rfl dX5_next_52 ?_
                    refine lv_iload hx hb dX5_next_55 (lv_at hl 5 rfl) ?_
                    refine lv_iload hx hb dX5_next_57 (lv_at hl 4 rfl) ?_
                    obtain ⟨q59, h⟩ := im_st_u h
                    refine va_iast hx hb hK hP hD hS 2 0 rfl rfl q59 dX5_next_59 (fun H locs hP hD hS => ?_)
                    obtain ⟨f21, ef21⟩ : ∃ g : Nat → Int32, g = upd f18 v17.toNatClampNeg v16 := ⟨_, rfl⟩
                    replace h := h f21 ef21
                    rw [← ef21] at hP hD
                    have hP : va_P (dC, dI) vwCl [(a_this, .inr (4, [.int i_this_thrown, .int i_this_kind, .int i_this_form, .ref a_this_bits, .ref a_this_values, .ref a_this_has, .int i_this_fields, .int i_this_checks, .int i_this_symbols, .ref a_this_row, .int i_this_size, .ref a_this_seen, .int i_this_many, .ref a_this_told, .int i_this_right, .int i_this_mended, .int i_this_mask, .int i_this_turned, .ref a_this_word, .ref a_this_gone, .ref a_this_lines, .ref a_this_places, .ref a_this_square])), (a_this_gone, .inl (cZ, n_this_gone, .inl f_this_gone)), (a_this_places, .inl (cI, n_this_places, .inl f21))] H := hP
                    have hD : va_D A [(a_this, .inr (4, [.int i_this_thrown, .int i_this_kind, .int i_this_form, .ref a_this_bits, .ref a_this_values, .ref a_this_has, .int i_this_fields, .int i_this_checks, .int i_this_symbols, .ref a_this_row, .int i_this_size, .ref a_this_seen, .int i_this_many, .ref a_this_told, .int i_this_right, .int i_this_mended, .int i_this_mask, .int i_this_turned, .ref a_this_word, .ref a_this_gone, .ref a_this_lines, .ref a_this_places, .ref a_this_square])), (a_this_gone, .inl (cZ, n_this_gone, .inl f_this_gone)), (a_this_places, .inl (cI, n_this_places, .inl f21))] := hD
                    refine lv_aload_n hx hb dX5_next_60 rfl (lv_at hl 0 rfl) ?_
                    refine lv_iload hx hb dX5_next_61 (lv_at hl 4 rfl) ?_
                    obtain ⟨v22, y63, h⟩ := im_b1_u h
                    have hPc := hP.sub (ws' := [(a_this, .inr (4, [.int i_this_thrown, .int i_this_kind, .int i_this_form, .ref a_this_bits, .ref a_this_values, .ref a_this_has, .int i_this_fields, .int i_this_checks, .int i_this_symbols, .ref a_this_row, .int i_this_size, .ref a_this_seen, .int i_this_many, .ref a_this_told, .int i_this_right, .int i_this_mended, .int i_this_mask, .int i_this_turned, .ref a_this_word, .ref a_this_gone, .ref a_this_lines, .ref a_this_places, .ref a_this_square])), (a_this_gone, .inl (cZ, n_this_gone, .inl f_this_gone))]) [0, 1] rfl
                    refine vp_callSi (W.runV (As := [.int v16]) (rest := []) ⟨hx, hb, hml, hown, hts⟩ (c_X5_behind l dC dI cI cJ cZ a_this a_this_bits a_this_values a_this_has a_this_row a_this_seen a_this_told a_this_word a_this_gone a_this_lines a_this_places a_this_square i_this_thrown i_this_kind i_this_form i_this_fields i_this_checks i_this_symbols i_this_size i_this_many i_this_right i_this_mended i_this_mask i_this_turned n_this_gone f_this_gone v16 y63) (cwV 1 hts gX5_next_X5_behind rfl rfl rfl (by decide +kernel) ⟨Nat.le_of_ble_eq_true rfl, Nat.le_of_ble_eq_true rfl⟩) ⟨fun a U g mk q => by obtain ⟨q0, qP, qK⟩ := q; exact ⟨q0, qP, va_K.moved (u := U) (U := U.calling g mk a) (Vm.Alike.refl U.vm) qK⟩, va_recv hK hPc (ci := 4) (q0 := 0) rfl rfl, fun U hU hW => ⟨rfl, by rw [hU]; exact hPc, va_K.moved hW.alike hK⟩⟩ rfl rfl hl.1 rfl (lv_room (Nat.le_of_ble_eq_true rfl)) dX5_next_63 ⟨Nat.zero_le _, Nat.zero_le _⟩) (fun w63 ew63 => ?_)
                    have ew63 := ew63.symm
                    subst ew63
                    refine lv_istore (lv' := [(5, .int v22), (0, .ref a_this), (1, .int x0), (2, .int x1), (3, .int v3), (6, .int v17)]) hx hb dX5_next_66 hl (by decide) rfl (fun ls hl => ?_)
                    obtain ⟨v23, ev23⟩ : ∃ y : Int32, y = (v17 + (1 : Int32)) := ⟨_, rfl⟩
                    replace h := im_lt_u h v23 ev23
                    refine lv_iinc (v := v23) (lv' := [(6, .int v23), (5, .int v22), (0, .ref a_this), (1, .int x0), (2, .int x1), (3, .int v3)]) hx hb dX5_next_68 hl (k := 5) rfl (by rw [ev23]; rfl) (by decide) rfl (fun ls hl => ?_)
                    refine lv_goto (tgt := 34) hx hb dX5_next_71 (by decide) ?_
                    exact ih v22 v23 f21 h _ _ _ hP hD hS (lv_sub hl [2, 3, 4, 5, 1, 0] rfl)
            exact Lp19 5000 v8 v3 f5 h _ _ _ hP hD hS (lv_sub hl [2, 3, 4, 5, 1, 0] rfl)
  exact Lp6 5000 v2 (0 : Int32) f_this_places h _ _ _ hP hD hS (lv_sub hl [2, 3, 4, 1, 0] rfl)
def im_X5_mend_L99 (v1 : Int32) (v2 : Int32) (f9 : Nat → Int32) (f10 : Nat → Int32) (n_this_lines : Nat) (n_this_places : Nat) (n_this_word : Nat) : Nat → Int32 → Int32 → (Nat → Int32) → Option (Int32 × (Nat → Int32) × (Nat → Int32) × (Nat → Int32))
  | 0, _, _, _ => none
  | n + 1, v12, v13, f14 => im_lt (v1 + v2) (fun v16 => if v16 ≤ v13 then (some (v12, f9, f10, f14)) else im_j2 (fun (v17 : Int32) (f18 : Nat → Int32) => im_lt (v13 + (1 : Int32)) (fun v20 => (im_X5_mend_L99 v1 v2 f9 f10 n_this_lines n_this_places n_this_word n v17 v20 f18))) (fun K19 => im_j1 (fun (f21 : Nat → Int32) => (K19 v12 f21)) (fun K22 => im_lt ((9 : Int32) * v13) (fun v23 => im_lt (v23 + v1) (fun v24 => im_lt (v24 + v2) (fun v25 => im_ld n_this_lines f9 v25 (fun v26 => im_ld n_this_places f10 v13 (fun v27 => im_ld n_this_places f10 v13 (fun v28 => im_ld n_this_word f14 v28 (fun v29 => im_lt (v29 ^^^ v26) (fun v30 => im_st n_this_word f14 v27 v30 (fun f31 => if v13 < v1 then (K22 f31) else if v26 = 0 then (K22 f31) else im_lt (v12 + (1 : Int32)) (fun v32 => (K19 v32 f31))))))))))))))
def im_X5_mend_L59 (v2 : Int32) (K11 : Int32 → (Nat → Int32) → (Nat → Int32) → Option (Int32 × (Nat → Int32) × (Nat → Int32) × (Nat → Int32))) (v1 : Int32) (i_this_symbols : Int32) (n_this_gone : Nat) (n_this_places : Nat) (f_this_gone : Nat → Int32) (i_this_checks : Int32) (n_this_lines : Nat) (n_this_word : Nat) (f_this_word : Nat → Int32) : Nat → Int32 → (Nat → Int32) → (Nat → Int32) → Option (Int32 × (Nat → Int32) × (Nat → Int32) × (Nat → Int32))
  | 0, _, _, _ => none
  | n + 1, v33, f34, f35 => if v33 = 0 then if v2 ≤ 0 then (K11 v33 f34 f35) else im_b2 (im_X5_next v1 v2 i_this_symbols n_this_gone n_this_places f_this_gone f35) (fun v37 f38 => if v37 = 0 then (K11 v33 f34 f38) else im_lt (v1 + v2) (fun v39 => im_b2 (im_X5_solve v39 i_this_checks i_this_symbols n_this_lines n_this_places n_this_word f34 f38 f_this_word) (fun v40 f41 => (im_X5_mend_L59 v2 K11 v1 i_this_symbols n_this_gone n_this_places f_this_gone i_this_checks n_this_lines n_this_word f_this_word n v40 f41 f38)))) else (K11 v33 f34 f35)
def im_X5_mend (i_this_checks : Int32) (i_this_symbols : Int32) (n_this_gone : Nat) (n_this_lines : Nat) (n_this_places : Nat) (n_this_word : Nat) (f_this_gone : Nat → Int32) (f_this_lines : Nat → Int32) (f_this_places : Nat → Int32) (f_this_word : Nat → Int32) : Option (Int32 × (Nat → Int32) × (Nat → Int32) × (Nat → Int32)) := im_b1 (im_X5_lost i_this_symbols n_this_gone f_this_gone) (fun v1 => if v1 ≤ i_this_checks then im_j1 (fun (v2 : Int32) => im_b1 (im_X5_begin v1 v2 i_this_symbols n_this_gone n_this_places f_this_gone f_this_places) (fun f4 => im_lt (v1 + v2) (fun v5 => im_b2 (im_X5_solve v5 i_this_checks i_this_symbols n_this_lines n_this_places n_this_word f_this_lines f4 f_this_word) (fun v6 f7 => im_j3 (fun (v8 : Int32) (f9 : Nat → Int32) (f10 : Nat → Int32) => if v8 = 0 then (some ((-1 : Int32), f9, f10, f_this_word)) else (im_X5_mend_L99 v1 v2 f9 f10 n_this_lines n_this_places n_this_word 5000 v1 (0 : Int32) f_this_word)) (fun K11 => (im_X5_mend_L59 v2 K11 v1 i_this_symbols n_this_gone n_this_places f_this_gone i_this_checks n_this_lines n_this_word f_this_word 300000 v6 f7 f4)))))) (fun K3 => im_lt (i_this_checks - v1) (fun v42 => im_lt (v42 / (2 : Int32)) (fun v43 => im_lt (i_this_symbols - v1) (fun v44 => if v43 ≤ v44 then (K3 v43) else im_lt (i_this_symbols - v1) (fun v45 => (K3 v45)))))) else (some ((-1 : Int32), f_this_lines, f_this_places, f_this_word)))
abbrev rm_X5_mend : Room := { frames := 5, cells := 0, slots := 0, locals := 119 }
theorem hn_X5_mend_X5 : ∀ w ∈ wsX50, w ∈ wsX5_mend := by decide +kernel
theorem fl_X5_mend_62 : Cond.fieldLink RX5 62 "BarCodesModel" "checks" "I" ∈ wsX5_mend := by decide +kernel
theorem fl_X5_mend_43 : Cond.fieldLink RX5 43 "BarCodesModel" "lines" "[I" ∈ wsX5_mend := by decide +kernel
theorem fl_X5_mend_37 : Cond.fieldLink RX5 37 "BarCodesModel" "word" "[I" ∈ wsX5_mend := by decide +kernel
theorem fl_X5_mend_46 : Cond.fieldLink RX5 46 "BarCodesModel" "places" "[I" ∈ wsX5_mend := by decide +kernel
theorem fl_X5_mend_65 : Cond.fieldLink RX5 65 "BarCodesModel" "symbols" "I" ∈ wsX5_mend := by decide +kernel
set_option maxHeartbeats 4000000 in
set_option maxRecDepth 100000 in
theorem c_X5_mend (l : Launch) (dC : Nat → ClassId) (dI : Nat → Nat → Nat) (cI cJ cZ : ClassId) (sz : Nat) (a_this a_this_bits a_this_values a_this_has a_this_row a_this_seen a_this_told a_this_word a_this_gone a_this_lines a_this_places a_this_square : Nat) (i_this_thrown i_this_kind i_this_form i_this_fields i_this_checks i_this_symbols i_this_size i_this_many i_this_right i_this_mended i_this_mask i_this_turned : Int32) (n_this_gone n_this_lines n_this_places n_this_word : Nat) (f_this_gone : Nat → Int32) (f_this_lines : Nat → Int32) (f_this_places : Nat → Int32) (f_this_word : Nat → Int32) {r : Int32 × (Nat → Int32) × (Nat → Int32) × (Nat → Int32)} (h : im_X5_mend i_this_checks i_this_symbols n_this_gone n_this_lines n_this_places n_this_word f_this_gone f_this_lines f_this_places f_this_word = some r) : Met l yX5_mend wsX5_mend rm_X5_mend (va_Pc [.ref a_this] (fun U => U.heap.size = sz ∧ va_P (dC, dI) vwCl [(a_this, .inr (4, [.int i_this_thrown, .int i_this_kind, .int i_this_form, .ref a_this_bits, .ref a_this_values, .ref a_this_has, .int i_this_fields, .int i_this_checks, .int i_this_symbols, .ref a_this_row, .int i_this_size, .ref a_this_seen, .int i_this_many, .ref a_this_told, .int i_this_right, .int i_this_mended, .int i_this_mask, .int i_this_turned, .ref a_this_word, .ref a_this_gone, .ref a_this_lines, .ref a_this_places, .ref a_this_square])), (a_this_gone, .inl (cZ, n_this_gone, .inl f_this_gone)), (a_this_lines, .inl (cI, n_this_lines, .inl f_this_lines)), (a_this_places, .inl (cI, n_this_places, .inl f_this_places)), (a_this_word, .inl (cI, n_this_word, .inl f_this_word))] U.heap ∧ va_K (dC, dI) vwCl [(cI, .int), (cJ, .long), (cZ, .boolean)] U ∧ va_D (fun _ => True) [(a_this, .inr (4, [.int i_this_thrown, .int i_this_kind, .int i_this_form, .ref a_this_bits, .ref a_this_values, .ref a_this_has, .int i_this_fields, .int i_this_checks, .int i_this_symbols, .ref a_this_row, .int i_this_size, .ref a_this_seen, .int i_this_many, .ref a_this_told, .int i_this_right, .int i_this_mended, .int i_this_mask, .int i_this_turned, .ref a_this_word, .ref a_this_gone, .ref a_this_lines, .ref a_this_places, .ref a_this_square])), (a_this_gone, .inl (cZ, n_this_gone, .inl f_this_gone)), (a_this_lines, .inl (cI, n_this_lines, .inl f_this_lines)), (a_this_places, .inl (cI, n_this_places, .inl f_this_places)), (a_this_word, .inl (cI, n_this_word, .inl f_this_word))])) (va_Qi (S := (Nat → Int32) × (Nat → Int32) × (Nat → Int32)) (fun r9 u9 => (r9, u9) = r) (fun u9 t9 => va_P (dC, dI) vwCl [(a_this, .inr (4, [.int i_this_thrown, .int i_this_kind, .int i_this_form, .ref a_this_bits, .ref a_this_values, .ref a_this_has, .int i_this_fields, .int i_this_checks, .int i_this_symbols, .ref a_this_row, .int i_this_size, .ref a_this_seen, .int i_this_many, .ref a_this_told, .int i_this_right, .int i_this_mended, .int i_this_mask, .int i_this_turned, .ref a_this_word, .ref a_this_gone, .ref a_this_lines, .ref a_this_places, .ref a_this_square])), (a_this_gone, .inl (cZ, n_this_gone, .inl f_this_gone)), (a_this_lines, .inl (cI, n_this_lines, .inl (u9.1))), (a_this_places, .inl (cI, n_this_places, .inl (u9.2.1))), (a_this_word, .inl (cI, n_this_word, .inl (u9.2.2)))] t9.heap ∧ va_K (dC, dI) vwCl [(cI, .int), (cJ, .long), (cZ, .boolean)] t9 ∧ va_D (va_A [(a_this, .inr (4, [.int i_this_thrown, .int i_this_kind, .int i_this_form, .ref a_this_bits, .ref a_this_values, .ref a_this_has, .int i_this_fields, .int i_this_checks, .int i_this_symbols, .ref a_this_row, .int i_this_size, .ref a_this_seen, .int i_this_many, .ref a_this_told, .int i_this_right, .int i_this_mended, .int i_this_mask, .int i_this_turned, .ref a_this_word, .ref a_this_gone, .ref a_this_lines, .ref a_this_places, .ref a_this_square])), (a_this_gone, .inl (cZ, n_this_gone, .inl f_this_gone)), (a_this_lines, .inl (cI, n_this_lines, .inl f_this_lines)), (a_this_places, .inl (cI, n_this_places, .inl f_this_places)), (a_this_word, .inl (cI, n_this_word, .inl f_this_word))] sz) [(a_this, .inr (4, [.int i_this_thrown, .int i_this_kind, .int i_this_form, .ref a_this_bits, .ref a_this_values, .ref a_this_has, .int i_this_fields, .int i_this_checks, .int i_this_symbols, .ref a_this_row, .int i_this_size, .ref a_this_seen, .int i_this_many, .ref a_this_told, .int i_this_right, .int i_this_mended, .int i_this_mask, .int i_this_turned, .ref a_this_word, .ref a_this_gone, .ref a_this_lines, .ref a_this_places, .ref a_this_square])), (a_this_gone, .inl (cZ, n_this_gone, .inl f_this_gone)), (a_this_lines, .inl (cI, n_this_lines, .inl (u9.1))), (a_this_places, .inl (cI, n_this_places, .inl (u9.2.1))), (a_this_word, .inl (cI, n_this_word, .inl (u9.2.2)))]) (va_A [(a_this, .inr (4, [.int i_this_thrown, .int i_this_kind, .int i_this_form, .ref a_this_bits, .ref a_this_values, .ref a_this_has, .int i_this_fields, .int i_this_checks, .int i_this_symbols, .ref a_this_row, .int i_this_size, .ref a_this_seen, .int i_this_many, .ref a_this_told, .int i_this_right, .int i_this_mended, .int i_this_mask, .int i_this_turned, .ref a_this_word, .ref a_this_gone, .ref a_this_lines, .ref a_this_places, .ref a_this_square])), (a_this_gone, .inl (cZ, n_this_gone, .inl f_this_gone)), (a_this_lines, .inl (cI, n_this_lines, .inl f_this_lines)), (a_this_places, .inl (cI, n_this_places, .inl f_this_places)), (a_this_word, .inl (cI, n_this_word, .inl f_this_word))] sz)) 0 0 (va_A [(a_this, .inr (4, [.int i_this_thrown, .int i_this_kind, .int i_this_form, .ref a_this_bits, .ref a_this_values, .ref a_this_has, .int i_this_fields, .int i_this_checks, .int i_this_symbols, .ref a_this_row, .int i_this_size, .ref a_this_seen, .int i_this_many, .ref a_this_told, .int i_this_right, .int i_this_mended, .int i_this_mask, .int i_this_turned, .ref a_this_word, .ref a_this_gone, .ref a_this_lines, .ref a_this_places, .ref a_this_square])), (a_this_gone, .inl (cZ, n_this_gone, .inl f_this_gone)), (a_this_lines, .inl (cI, n_this_lines, .inl f_this_lines)), (a_this_places, .inl (cI, n_this_places, .inl f_this_places)), (a_this_word, .inl (cI, n_this_word, .inl f_this_word))] sz) := by
  refine Met.ofW (cc := cX5_mend) (maxL := 7) (ret := (some .int)) (by decide) rfl ?_
  intro p e s m args below meth c s₁ B hml hv
  obtain ⟨eargs, hsz, hP, hK, hD0⟩ := hv
  have hx := B.exec
  have hb := B.bytes
  have hr := B.returns
  have hts := atoms_spec (ws := wsX5_mend) B.pre
  have hown : s.vm.findClass RX5 = some m.cls := findClass_of_methodNamed B.named
  have hlocks := B.notSynchronized
  refine im_Q (fun Q eQ => ?_)
  subst hsz
  have hD := hD0.self (sz := s.heap.size)
  generalize hAe : va_A [(a_this, .inr (4, [.int i_this_thrown, .int i_this_kind, .int i_this_form, .ref a_this_bits, .ref a_this_values, .ref a_this_has, .int i_this_fields, .int i_this_checks, .int i_this_symbols, .ref a_this_row, .int i_this_size, .ref a_this_seen, .int i_this_many, .ref a_this_told, .int i_this_right, .int i_this_mended, .int i_this_mask, .int i_this_turned, .ref a_this_word, .ref a_this_gone, .ref a_this_lines, .ref a_this_places, .ref a_this_square])), (a_this_gone, .inl (cZ, n_this_gone, .inl f_this_gone)), (a_this_lines, .inl (cI, n_this_lines, .inl f_this_lines)), (a_this_places, .inl (cI, n_this_places, .inl f_this_places)), (a_this_word, .inl (cI, n_this_word, .inl f_this_word))] s.heap.size = A at hD eQ
  have hA : ∀ q : Nat, s.heap.size ≤ q → A q := fun q h => by rw [← hAe]; exact Or.inr h
  have hS : va_S A s.heap s.heap [] := va_S.rf
  have hl := lv_entry [.ref a_this] (n := 7) (Nat.le_of_ble_eq_true rfl)
  rw [show entryFrame m args 7 = entryFrame m ([.ref a_this] : List Value).toArray 7 by rw [eargs], lg_entry_eq]
  generalize (lg_sl ([.ref a_this]) ++ List.replicate (7 - (lg_sl ([.ref a_this])).length) Slot.unset).toArray = ls at hl ⊢
  have hl : lv_has ls 7 [(0, .ref a_this)] := hl
  rw [im_X5_mend] at h
  refine lv_aload_n hx hb dX5_mend_0 rfl (lv_at hl 0 rfl) ?_
  obtain ⟨v1, y1, h⟩ := im_b1_u h
  have hPc := hP.sub (ws' := [(a_this, .inr (4, [.int i_this_thrown, .int i_this_kind, .int i_this_form, .ref a_this_bits, .ref a_this_values, .ref a_this_has, .int i_this_fields, .int i_this_checks, .int i_this_symbols, .ref a_this_row, .int i_this_size, .ref a_this_seen, .int i_this_many, .ref a_this_told, .int i_this_right, .int i_this_mended, .int i_this_mask, .int i_this_turned, .ref a_this_word, .ref a_this_gone, .ref a_this_lines, .ref a_this_places, .ref a_this_square])), (a_this_gone, .inl (cZ, n_this_gone, .inl f_this_gone))]) [0, 1] rfl
  refine vp_callSi (W.runV (As := []) (rest := []) ⟨hx, hb, hml, hown, hts⟩ (c_X5_lost l dC dI cI cJ cZ a_this a_this_bits a_this_values a_this_has a_this_row a_this_seen a_this_told a_this_word a_this_gone a_this_lines a_this_places a_this_square i_this_thrown i_this_kind i_this_form i_this_fields i_this_checks i_this_symbols i_this_size i_this_many i_this_right i_this_mended i_this_mask i_this_turned n_this_gone f_this_gone y1) (cwV 0 hts gX5_mend_X5_lost rfl rfl rfl (by decide +kernel) ⟨Nat.le_of_ble_eq_true rfl, Nat.le_of_ble_eq_true rfl⟩) ⟨fun a U g mk q => by obtain ⟨q0, qP, qK⟩ := q; exact ⟨q0, qP, va_K.moved (u := U) (U := U.calling g mk a) (Vm.Alike.refl U.vm) qK⟩, va_recv hK hPc (ci := 4) (q0 := 0) rfl rfl, fun U hU hW => ⟨rfl, by rw [hU]; exact hPc, va_K.moved hW.alike hK⟩⟩ rfl rfl hl.1 rfl (lv_room (Nat.le_of_ble_eq_true rfl)) dX5_mend_1 ⟨Nat.zero_le _, Nat.zero_le _⟩) (fun w1 ew1 => ?_)
  have ew1 := ew1.symm
  subst ew1
  refine lv_istore_n (lv' := [(1, .int v1), (0, .ref a_this)]) hx hb dX5_mend_4 rfl hl (by decide) rfl (fun ls hl => ?_)
  refine lv_iload_n hx hb dX5_mend_5 rfl (lv_at hl 0 rfl) ?_
  refine lv_aload_n hx hb dX5_mend_6 rfl (lv_at hl 1 rfl) ?_
  refine va_get (D := (dC, dI)) (ci := 4) (v := .int i_this_checks) (C := RX5) (T := TX5) (N := 23) hx hb hts hn_X5_mend_X5 hown hK hP 0 rfl rfl 7 (by decide) (hts _ fl_X5_mend_62) (fun _ h9 => h9) rfl dX5_mend_7 ?_
  refine lv_icmp_le (tgt := 15) hx hb dX5_mend_10 (by decide) (fun c10 => ?_) (fun c10 => ?_)
  · replace h := im_t c10 h
    refine im_j1_u (P := fun v2 => ∀ (H : Heap) (locs : List Loc) (ls : Array Slot), va_P (dC, dI) vwCl [(a_this, .inr (4, [.int i_this_thrown, .int i_this_kind, .int i_this_form, .ref a_this_bits, .ref a_this_values, .ref a_this_has, .int i_this_fields, .int i_this_checks, .int i_this_symbols, .ref a_this_row, .int i_this_size, .ref a_this_seen, .int i_this_many, .ref a_this_told, .int i_this_right, .int i_this_mended, .int i_this_mask, .int i_this_turned, .ref a_this_word, .ref a_this_gone, .ref a_this_lines, .ref a_this_places, .ref a_this_square])), (a_this_gone, .inl (cZ, n_this_gone, .inl f_this_gone)), (a_this_lines, .inl (cI, n_this_lines, .inl f_this_lines)), (a_this_places, .inl (cI, n_this_places, .inl f_this_places)), (a_this_word, .inl (cI, n_this_word, .inl f_this_word))] H → va_D A [(a_this, .inr (4, [.int i_this_thrown, .int i_this_kind, .int i_this_form, .ref a_this_bits, .ref a_this_values, .ref a_this_has, .int i_this_fields, .int i_this_checks, .int i_this_symbols, .ref a_this_row, .int i_this_size, .ref a_this_seen, .int i_this_many, .ref a_this_told, .int i_this_right, .int i_this_mended, .int i_this_mask, .int i_this_turned, .ref a_this_word, .ref a_this_gone, .ref a_this_lines, .ref a_this_places, .ref a_this_square])), (a_this_gone, .inl (cZ, n_this_gone, .inl f_this_gone)), (a_this_lines, .inl (cI, n_this_lines, .inl f_this_lines)), (a_this_places, .inl (cI, n_this_places, .inl f_this_places)), (a_this_word, .inl (cI, n_this_word, .inl f_this_word))] → va_S A s.heap H locs → lv_has ls 7 [(0, .ref a_this), (1, .int v1)] → W p l e (headSpec wsX5_mend rm_X5_mend).room s m args below meth c H locs 0 0 Q (F0 m 44 ls [.int v2])) h (fun v2 h H locs ls hP hD hS hl => ?_) (fun K3 J3 h => ?_)
    · refine lv_istore_n (lv' := [(2, .int v2), (0, .ref a_this), (1, .int v1)]) hx hb dX5_mend_44 rfl hl (by decide) rfl (fun ls hl => ?_)
      refine lv_aload_n hx hb dX5_mend_45 rfl (lv_at hl 1 rfl) ?_
      refine lv_iload_n hx hb dX5_mend_46 rfl (lv_at hl 2 rfl) ?_
      refine lv_iload_n hx hb dX5_mend_47 rfl (lv_at hl 0 rfl) ?_
      obtain ⟨f4, y48, h⟩ := im_b1_u h
      have hPc := hP.sub (ws' := [(a_this, .inr (4, [.int i_this_thrown, .int i_this_kind, .int i_this_form, .ref a_this_bits, .ref a_this_values, .ref a_this_has, .int i_this_fields, .int i_this_checks, .int i_this_symbols, .ref a_this_row, .int i_this_size, .ref a_this_seen, .int i_this_many, .ref a_this_told, .int i_this_right, .int i_this_mended, .int i_this_mask, .int i_this_turned, .ref a_this_word, .ref a_this_gone, .ref a_this_lines, .ref a_this_places, .ref a_this_square])), (a_this_gone, .inl (cZ, n_this_gone, .inl f_this_gone)), (a_this_places, .inl (cI, n_this_places, .inl f_this_places))]) [0, 1, 3] rfl
      have hDc := hD.sub (ws' := [(a_this, .inr (4, [.int i_this_thrown, .int i_this_kind, .int i_this_form, .ref a_this_bits, .ref a_this_values, .ref a_this_has, .int i_this_fields, .int i_this_checks, .int i_this_symbols, .ref a_this_row, .int i_this_size, .ref a_this_seen, .int i_this_many, .ref a_this_told, .int i_this_right, .int i_this_mended, .int i_this_mask, .int i_this_turned, .ref a_this_word, .ref a_this_gone, .ref a_this_lines, .ref a_this_places, .ref a_this_square])), (a_this_gone, .inl (cZ, n_this_gone, .inl f_this_gone)), (a_this_places, .inl (cI, n_this_places, .inl f_this_places))]) [0, 1, 3] (by decide) rfl
      have hFc := va_free (wc := [(a_this, .inr (4, [.int i_this_thrown, .int i_this_kind, .int i_this_form, .ref a_this_bits, .ref a_this_values, .ref a_this_has, .int i_this_fields, .int i_this_checks, .int i_this_symbols, .ref a_this_row, .int i_this_size, .ref a_this_seen, .int i_this_many, .ref a_this_told, .int i_this_right, .int i_this_mended, .int i_this_mask, .int i_this_turned, .ref a_this_word, .ref a_this_gone, .ref a_this_lines, .ref a_this_places, .ref a_this_square])), (a_this_gone, .inl (cZ, n_this_gone, .inl f_this_gone)), (a_this_places, .inl (cI, n_this_places, .inl f_this_places))]) hD hS hA [0, 1, 3] rfl
      refine va_callv (va_runV (As := [.int v1, .int v2]) (rest := []) ⟨hx, hb, hml, hown, hts⟩ (c_X5_begin l dC dI cI cJ cZ H.size a_this a_this_bits a_this_values a_this_has a_this_row a_this_seen a_this_told a_this_word a_this_gone a_this_lines a_this_places a_this_square i_this_thrown i_this_kind i_this_form i_this_fields i_this_checks i_this_symbols i_this_size i_this_many i_this_right i_this_mended i_this_mask i_this_turned n_this_gone n_this_places f_this_gone f_this_places v1 v2 y48) (cwV 2 hts gX5_mend_X5_begin rfl rfl rfl (by decide +kernel) ⟨Nat.le_of_ble_eq_true rfl, Nat.le_of_ble_eq_true rfl⟩) ⟨fun a U g mk q => by obtain ⟨q0, q1, qP, qK, qD⟩ := q; exact ⟨q0, q1, qP, va_K.moved (u := U) (U := U.calling g mk a) (Vm.Alike.refl U.vm) qK, qD⟩, va_recv hK hPc (ci := 4) (q0 := 0) rfl rfl, fun U hU hW => ⟨rfl, by rw [hU], by rw [hU]; exact hPc, va_K.moved hW.alike hK, hDc.weaken (fun _ _ _ _ => trivial)⟩⟩ rfl rfl hl.1 rfl (lv_room (Nat.le_of_ble_eq_true rfl)) dX5_mend_48 ⟨Nat.zero_le _, Nat.zero_le _⟩) hS (fun q _ h => hFc q h) hFc (fun u9 t9 H1 locs ht9 hvm9 hw9 hB9 hz9 hk9 hS => ?_)
      obtain ⟨hP1, hK1, hD1⟩ := hB9
      rw [ht9] at hP1
      have hw9 := hw9.symm
      subst hw9
      obtain ⟨hP, hD⟩ := va_join (wr := [(a_this_lines, .inl (cI, n_this_lines, .inl f_this_lines)), (a_this_word, .inl (cI, n_this_word, .inl f_this_word))]) (w1 := [(a_this, .inr (4, [.int i_this_thrown, .int i_this_kind, .int i_this_form, .ref a_this_bits, .ref a_this_values, .ref a_this_has, .int i_this_fields, .int i_this_checks, .int i_this_symbols, .ref a_this_row, .int i_this_size, .ref a_this_seen, .int i_this_many, .ref a_this_told, .int i_this_right, .int i_this_mended, .int i_this_mask, .int i_this_turned, .ref a_this_word, .ref a_this_gone, .ref a_this_lines, .ref a_this_places, .ref a_this_square])), (a_this_gone, .inl (cZ, n_this_gone, .inl f_this_gone)), (a_this_places, .inl (cI, n_this_places, .inl f4))]) hP hD [0, 1, 3] [2, 4] rfl rfl (by decide) (by decide) hk9 hFc hP1 hD1
      generalize H1 = H at hP hS ⊢
      have hP := hP.sub (ws' := [(a_this, .inr (4, [.int i_this_thrown, .int i_this_kind, .int i_this_form, .ref a_this_bits, .ref a_this_values, .ref a_this_has, .int i_this_fields, .int i_this_checks, .int i_this_symbols, .ref a_this_row, .int i_this_size, .ref a_this_seen, .int i_this_many, .ref a_this_told, .int i_this_right, .int i_this_mended, .int i_this_mask, .int i_this_turned, .ref a_this_word, .ref a_this_gone, .ref a_this_lines, .ref a_this_places, .ref a_this_square])), (a_this_gone, .inl (cZ, n_this_gone, .inl f_this_gone)), (a_this_lines, .inl (cI, n_this_lines, .inl f_this_lines)), (a_this_places, .inl (cI, n_this_places, .inl f4)), (a_this_word, .inl (cI, n_this_word, .inl f_this_word))]) [2, 3, 0, 4, 1] rfl
      have hD := hD.sub (ws' := [(a_this, .inr (4, [.int i_this_thrown, .int i_this_kind, .int i_this_form, .ref a_this_bits, .ref a_this_values, .ref a_this_has, .int i_this_fields, .int i_this_checks, .int i_this_symbols, .ref a_this_row, .int i_this_size, .ref a_this_seen, .int i_this_many, .ref a_this_told, .int i_this_right, .int i_this_mended, .int i_this_mask, .int i_this_turned, .ref a_this_word, .ref a_this_gone, .ref a_this_lines, .ref a_this_places, .ref a_this_square])), (a_this_gone, .inl (cZ, n_this_gone, .inl f_this_gone)), (a_this_lines, .inl (cI, n_this_lines, .inl f_this_lines)), (a_this_places, .inl (cI, n_this_places, .inl f4)), (a_this_word, .inl (cI, n_this_word, .inl f_this_word))]) [2, 3, 0, 4, 1] (by decide) rfl
      refine lv_aload_n hx hb dX5_mend_51 rfl (lv_at hl 1 rfl) ?_
      refine lv_iload_n hx hb dX5_mend_52 rfl (lv_at hl 2 rfl) ?_
      refine lv_iload_n hx hb dX5_mend_53 rfl (lv_at hl 0 rfl) ?_
      refine lv_iadd hx hb dX5_mend_54 ?_
      refine lv_topi (fun v5 ev5 => ?_)
      replace h := im_lt_u h v5 ev5
      obtain ⟨v6, f7, y55, h⟩ := im_b2_u h
      have hPc := hP.sub (ws' := [(a_this, .inr (4, [.int i_this_thrown, .int i_this_kind, .int i_this_form, .ref a_this_bits, .ref a_this_values, .ref a_this_has, .int i_this_fields, .int i_this_checks, .int i_this_symbols, .ref a_this_row, .int i_this_size, .ref a_this_seen, .int i_this_many, .ref a_this_told, .int i_this_right, .int i_this_mended, .int i_this_mask, .int i_this_turned, .ref a_this_word, .ref a_this_gone, .ref a_this_lines, .ref a_this_places, .ref a_this_square])), (a_this_lines, .inl (cI, n_this_lines, .inl f_this_lines)), (a_this_places, .inl (cI, n_this_places, .inl f4)), (a_this_word, .inl (cI, n_this_word, .inl f_this_word))]) [0, 2, 3, 4] rfl
      have hDc := hD.sub (ws' := [(a_this, .inr (4, [.int i_this_thrown, .int i_this_kind, .int i_this_form, .ref a_this_bits, .ref a_this_values, .ref a_this_has, .int i_this_fields, .int i_this_checks, .int i_this_symbols, .ref a_this_row, .int i_this_size, .ref a_this_seen, .int i_this_many, .ref a_this_told, .int i_this_right, .int i_this_mended, .int i_this_mask, .int i_this_turned, .ref a_this_word, .ref a_this_gone, .ref a_this_lines, .ref a_this_places, .ref a_this_square])), (a_this_lines, .inl (cI, n_this_lines, .inl f_this_lines)), (a_this_places, .inl (cI, n_this_places, .inl f4)), (a_this_word, .inl (cI, n_this_word, .inl f_this_word))]) [0, 2, 3, 4] (by decide) rfl
      have hFc := va_free (wc := [(a_this, .inr (4, [.int i_this_thrown, .int i_this_kind, .int i_this_form, .ref a_this_bits, .ref a_this_values, .ref a_this_has, .int i_this_fields, .int i_this_checks, .int i_this_symbols, .ref a_this_row, .int i_this_size, .ref a_this_seen, .int i_this_many, .ref a_this_told, .int i_this_right, .int i_this_mended, .int i_this_mask, .int i_this_turned, .ref a_this_word, .ref a_this_gone, .ref a_this_lines, .ref a_this_places, .ref a_this_square])), (a_this_lines, .inl (cI, n_this_lines, .inl f_this_lines)), (a_this_places, .inl (cI, n_this_places, .inl f4)), (a_this_word, .inl (cI, n_this_word, .inl f_this_word))]) hD hS hA [0, 2, 3, 4] rfl
      refine va_calli (va_runV (As := [.int v5]) (rest := []) ⟨hx, hb, hml, hown, hts⟩ (c_X5_solve l dC dI cI cJ cZ H.size a_this a_this_bits a_this_values a_this_has a_this_row a_this_seen a_this_told a_this_word a_this_gone a_this_lines a_this_places a_this_square i_this_thrown i_this_kind i_this_form i_this_fields i_this_checks i_this_symbols i_this_size i_this_many i_this_right i_this_mended i_this_mask i_this_turned n_this_lines n_this_places n_this_word f_this_lines f4 f_this_word v5 y55) (cwV 1 hts gX5_mend_X5_solve rfl rfl rfl (by decide +kernel) ⟨Nat.le_of_ble_eq_true rfl, Nat.le_of_ble_eq_true rfl⟩) ⟨fun a U g mk q => by obtain ⟨q0, q1, qP, qK, qD⟩ := q; exact ⟨q0, q1, qP, va_K.moved (u := U) (U := U.calling g mk a) (Vm.Alike.refl U.vm) qK, qD⟩, va_recv hK hPc (ci := 4) (q0 := 0) rfl rfl, fun U hU hW => ⟨rfl, by rw [hU], by rw [hU]; exact hPc, va_K.moved hW.alike hK, hDc.weaken (fun _ _ _ _ => trivial)⟩⟩ rfl rfl hl.1 rfl (lv_room (Nat.le_of_ble_eq_true rfl)) dX5_mend_55 ⟨Nat.zero_le _, Nat.zero_le _⟩) hS (fun q _ h => hFc q h) hFc (fun r9 u9 t9 H1 locs ht9 hvm9 hw9 hB9 hz9 hk9 hS => ?_)
      obtain ⟨hP1, hK1, hD1⟩ := hB9
      rw [ht9] at hP1
      obtain ⟨e1, e2⟩ := Prod.mk.inj hw9
      have e1 := e1.symm
      have e2 := e2.symm
      subst e1
      subst e2
      obtain ⟨hP, hD⟩ := va_join (wr := [(a_this_gone, .inl (cZ, n_this_gone, .inl f_this_gone))]) (w1 := [(a_this, .inr (4, [.int i_this_thrown, .int i_this_kind, .int i_this_form, .ref a_this_bits, .ref a_this_values, .ref a_this_has, .int i_this_fields, .int i_this_checks, .int i_this_symbols, .ref a_this_row, .int i_this_size, .ref a_this_seen, .int i_this_many, .ref a_this_told, .int i_this_right, .int i_this_mended, .int i_this_mask, .int i_this_turned, .ref a_this_word, .ref a_this_gone, .ref a_this_lines, .ref a_this_places, .ref a_this_square])), (a_this_lines, .inl (cI, n_this_lines, .inl f7)), (a_this_places, .inl (cI, n_this_places, .inl f4)), (a_this_word, .inl (cI, n_this_word, .inl f_this_word))]) hP hD [0, 2, 3, 4] [1] rfl rfl (by decide) (by decide) hk9 hFc hP1 hD1
      generalize H1 = H at hP hS ⊢
      have hP := hP.sub (ws' := [(a_this, .inr (4, [.int i_this_thrown, .int i_this_kind, .int i_this_form, .ref a_this_bits, .ref a_this_values, .ref a_this_has, .int i_this_fields, .int i_this_checks, .int i_this_symbols, .ref a_this_row, .int i_this_size, .ref a_this_seen, .int i_this_many, .ref a_this_told, .int i_this_right, .int i_this_mended, .int i_this_mask, .int i_this_turned, .ref a_this_word, .ref a_this_gone, .ref a_this_lines, .ref a_this_places, .ref a_this_square])), (a_this_gone, .inl (cZ, n_this_gone, .inl f_this_gone)), (a_this_lines, .inl (cI, n_this_lines, .inl f7)), (a_this_places, .inl (cI, n_this_places, .inl f4)), (a_this_word, .inl (cI, n_this_word, .inl f_this_word))]) [1, 0, 2, 3, 4] rfl
      have hD := hD.sub (ws' := [(a_this, .inr (4, [.int i_this_thrown, .int i_this_kind, .int i_this_form, .ref a_this_bits, .ref a_this_values, .ref a_this_has, .int i_this_fields, .int i_this_checks, .int i_this_symbols, .ref a_this_row, .int i_this_size, .ref a_this_seen, .int i_this_many, .ref a_this_told, .int i_this_right, .int i_this_mended, .int i_this_mask, .int i_this_turned, .ref a_this_word, .ref a_this_gone, .ref a_this_lines, .ref a_this_places, .ref a_this_square])), (a_this_gone, .inl (cZ, n_this_gone, .inl f_this_gone)), (a_this_lines, .inl (cI, n_this_lines, .inl f7)), (a_this_places, .inl (cI, n_this_places, .inl f4)), (a_this_word, .inl (cI, n_this_word, .inl f_this_word))]) [1, 0, 2, 3, 4] (by decide) rfl
      refine lv_istore_n (lv' := [(3, .int v6), (2, .int v2), (0, .ref a_this), (1, .int v1)]) hx hb dX5_mend_58 rfl hl (by decide) rfl (fun ls hl => ?_)
      refine im_j3_u (P := fun v8 f9 f10 => ∀ (H : Heap) (locs : List Loc) (ls : Array Slot), va_P (dC, dI) vwCl [(a_this, .inr (4, [.int i_this_thrown, .int i_this_kind, .int i_this_form, .ref a_this_bits, .ref a_this_values, .ref a_this_has, .int i_this_fields, .int i_this_checks, .int i_this_symbols, .ref a_this_row, .int i_this_size, .ref a_this_seen, .int i_this_many, .ref a_this_told, .int i_this_right, .int i_this_mended, .int i_this_mask, .int i_this_turned, .ref a_this_word, .ref a_this_gone, .ref a_this_lines, .ref a_this_places, .ref a_this_square])), (a_this_gone, .inl (cZ, n_this_gone, .inl f_this_gone)), (a_this_lines, .inl (cI, n_this_lines, .inl f9)), (a_this_places, .inl (cI, n_this_places, .inl f10)), (a_this_word, .inl (cI, n_this_word, .inl f_this_word))] H → va_D A [(a_this, .inr (4, [.int i_this_thrown, .int i_this_kind, .int i_this_form, .ref a_this_bits, .ref a_this_values, .ref a_this_has, .int i_this_fields, .int i_this_checks, .int i_this_symbols, .ref a_this_row, .int i_this_size, .ref a_this_seen, .int i_this_many, .ref a_this_told, .int i_this_right, .int i_this_mended, .int i_this_mask, .int i_this_turned, .ref a_this_word, .ref a_this_gone, .ref a_this_lines, .ref a_this_places, .ref a_this_square])), (a_this_gone, .inl (cZ, n_this_gone, .inl f_this_gone)), (a_this_lines, .inl (cI, n_this_lines, .inl f9)), (a_this_places, .inl (cI, n_this_places, .inl f10)), (a_this_word, .inl (cI, n_this_word, .inl f_this_word))] → va_S A s.heap H locs → lv_has ls 7 [(0, .ref a_this), (1, .int v1), (2, .int v2), (3, .int v8)] → W p l e (headSpec wsX5_mend rm_X5_mend).room s m args below meth c H locs 0 0 Q (F0 m 87 ls [])) h (fun v8 f9 f10 h H locs ls hP hD hS hl => ?_) (fun K11 J11 h => ?_)
      · refine lv_iload_n hx hb dX5_mend_87 rfl (lv_at hl 3 rfl) ?_
        refine lv_if_ne (tgt := 93) hx hb dX5_mend_88 (by decide) (fun c88 => ?_) (fun c88 => ?_)
        · replace h := im_f c88 h
          refine lv_iload_n hx hb dX5_mend_93 rfl (lv_at hl 1 rfl) ?_
          refine lv_istore (lv' := [(4, .int v1), (0, .ref a_this), (1, .int v1), (2, .int v2), (3, .int v8)]) hx hb dX5_mend_94 hl (by decide) rfl (fun ls hl => ?_)
          refine lv_iconst (v := (0 : Int32)) hx hb dX5_mend_96 (by decide) ?_
          refine lv_istore (lv' := [(5, .int (0 : Int32)), (4, .int v1), (0, .ref a_this), (1, .int v1), (2, .int v2), (3, .int v8)]) hx hb dX5_mend_97 hl (by decide) rfl (fun ls hl => ?_)
          have Lp15 : ∀ (n : Nat) (v12 : Int32) (v13 : Int32) (f14 : Nat → Int32), im_X5_mend_L99 v1 v2 f9 f10 n_this_lines n_this_places n_this_word n v12 v13 f14 = some r → ∀ (H : Heap) (locs : List Loc) (ls : Array Slot), va_P (dC, dI) vwCl [(a_this, .inr (4, [.int i_this_thrown, .int i_this_kind, .int i_this_form, .ref a_this_bits, .ref a_this_values, .ref a_this_has, .int i_this_fields, .int i_this_checks, .int i_this_symbols, .ref a_this_row, .int i_this_size, .ref a_this_seen, .int i_this_many, .ref a_this_told, .int i_this_right, .int i_this_mended, .int i_this_mask, .int i_this_turned, .ref a_this_word, .ref a_this_gone, .ref a_this_lines, .ref a_this_places, .ref a_this_square])), (a_this_gone, .inl (cZ, n_this_gone, .inl f_this_gone)), (a_this_lines, .inl (cI, n_this_lines, .inl f9)), (a_this_places, .inl (cI, n_this_places, .inl f10)), (a_this_word, .inl (cI, n_this_word, .inl f14))] H → va_D A [(a_this, .inr (4, [.int i_this_thrown, .int i_this_kind, .int i_this_form, .ref a_this_bits, .ref a_this_values, .ref a_this_has, .int i_this_fields, .int i_this_checks, .int i_this_symbols, .ref a_this_row, .int i_this_size, .ref a_this_seen, .int i_this_many, .ref a_this_told, .int i_this_right, .int i_this_mended, .int i_this_mask, .int i_this_turned, .ref a_this_word, .ref a_this_gone, .ref a_this_lines, .ref a_this_places, .ref a_this_square])), (a_this_gone, .inl (cZ, n_this_gone, .inl f_this_gone)), (a_this_lines, .inl (cI, n_this_lines, .inl f9)), (a_this_places, .inl (cI, n_this_places, .inl f10)), (a_this_word, .inl (cI, n_this_word, .inl f14))] → va_S A s.heap H locs → lv_has ls 7 [(0, .ref a_this), (1, .int v1), (2, .int v2), (4, .int v12), (5, .int v13)] → W p l e (headSpec wsX5_mend rm_X5_mend).room s m args below meth c H locs 0 0 Q (F0 m 99 ls []) := by
            intro n
            induction n with
            | zero => intro v12 v13 f14 h; rw [im_X5_mend_L99] at h; cases h
            | succ n ih =>
              intro v12 v13 f14 h H locs ls hP hD hS hl
              rw [im_X5_mend_L99] at h
              refine lv_iload hx hb dX5_mend_99 (lv_at hl 4 rfl) ?_
              refine lv_iload_n hx hb dX5_mend_101 rfl (lv_at hl 1 rfl) ?_
              refine lv_iload_n hx hb dX5_mend_102 rfl (lv_at hl 2 rfl) ?_
              refine lv_iadd hx hb dX5_mend_103 ?_
              refine lv_topi (fun v16 ev16 => ?_)
              replace h := im_lt_u h v16 ev16
              refine lv_icmp_ge (tgt := 178) hx hb dX5_mend_104 (by decide) (fun c104 => ?_) (fun c104 => ?_)
              · replace h := im_t c104 h
                refine lv_iload hx hb dX5_mend_178 (lv_at hl 3 rfl) ?_
                rw [eQ]
                exact W.iret (v := v12) hx hb hr (fun t ht hW => ⟨⟨_, (f9, f10, f14), rfl, Option.some.inj h, by rw [ht]; exact hP, va_K.moved hW.alike hK, hD⟩, hS.F ht⟩) hS.2.2 dX5_mend_180
              · replace h := im_f c104 h
                refine im_j2_u (P := fun v17 f18 => ∀ (H : Heap) (locs : List Loc) (ls : Array Slot), va_P (dC, dI) vwCl [(a_this, .inr (4, [.int i_this_thrown, .int i_this_kind, .int i_this_form, .ref a_this_bits, .ref a_this_values, .ref a_this_has, .int i_this_fields, .int i_this_checks, .int i_this_symbols, .ref a_this_row, .int i_this_size, .ref a_this_seen, .int i_this_many, .ref a_this_told, .int i_this_right, .int i_this_mended, .int i_this_mask, .int i_this_turned, .ref a_this_word, .ref a_this_gone, .ref a_this_lines, .ref a_this_places, .ref a_this_square])), (a_this_gone, .inl (cZ, n_this_gone, .inl f_this_gone)), (a_this_lines, .inl (cI, n_this_lines, .inl f9)), (a_this_places, .inl (cI, n_this_places, .inl f10)), (a_this_word, .inl (cI, n_this_word, .inl f18))] H → va_D A [(a_this, .inr (4, [.int i_this_thrown, .int i_this_kind, .int i_this_form, .ref a_this_bits, .ref a_this_values, .ref a_this_has, .int i_this_fields, .int i_this_checks, .int i_this_symbols, .ref a_this_row, .int i_this_size, .ref a_this_seen, .int i_this_many, .ref a_this_told, .int i_this_right, .int i_this_mended, .int i_this_mask, .int i_this_turned, .ref a_this_word, .ref a_this_gone, .ref a_this_lines, .ref a_this_places, .ref a_this_square])), (a_this_gone, .inl (cZ, n_this_gone, .inl f_this_gone)), (a_this_lines, .inl (cI, n_this_lines, .inl f9)), (a_this_places, .inl (cI, n_this_places, .inl f10)), (a_this_word, .inl (cI, n_this_word, .inl f18))] → va_S A s.heap H locs → lv_has ls 7 [(0, .ref a_this), (1, .int v1), (2, .int v2), (5, .int v13)] → W p l e (headSpec wsX5_mend rm_X5_mend).room s m args below meth c H locs 0 0 Q (F0 m 170 ls [.int v17])) h (fun v17 f18 h H locs ls hP hD hS hl => ?_) (fun K19 J19 h => ?_)
                · refine lv_istore (lv' := [(4, .int v17), (0, .ref a_this), (1, .int v1), (2, .int v2), (5, .int v13)]) hx hb dX5_mend_170 hl (by decide) rfl (fun ls hl => ?_)
                  obtain ⟨v20, ev20⟩ : ∃ y : Int32, y = (v13 + (1 : Int32)) := ⟨_, rfl⟩
                  replace h := im_lt_u h v20 ev20
                  refine lv_iinc (v := v20) (lv' := [(5, .int v20), (4, .int v17), (0, .ref a_this), (1, .int v1), (2, .int v2)]) hx hb dX5_mend_172 hl (k := 4) rfl (by rw [ev20]; rfl) (by decide) rfl (fun ls hl => ?_)
                  refine lv_goto (tgt := 99) hx hb dX5_mend_175 (by decide) ?_
                  exact ih v17 v20 f18 h _ _ _ hP hD hS (lv_sub hl [2, 3, 4, 1, 0] rfl)
                · refine im_j1_u (P := fun f21 => ∀ (H : Heap) (locs : List Loc) (ls : Array Slot), va_P (dC, dI) vwCl [(a_this, .inr (4, [.int i_this_thrown, .int i_this_kind, .int i_this_form, .ref a_this_bits, .ref a_this_values, .ref a_this_has, .int i_this_fields, .int i_this_checks, .int i_this_symbols, .ref a_this_row, .int i_this_size, .ref a_this_seen, .int i_this_many, .ref a_this_told, .int i_this_right, .int i_this_mended, .int i_this_mask, .int i_this_turned, .ref a_this_word, .ref a_this_gone, .ref a_this_lines, .ref a_this_places, .ref a_this_square])), (a_this_gone, .inl (cZ, n_this_gone, .inl f_this_gone)), (a_this_lines, .inl (cI, n_this_lines, .inl f9)), (a_this_places, .inl (cI, n_this_places, .inl f10)), (a_this_word, .inl (cI, n_this_word, .inl f21))] H → va_D A [(a_this, .inr (4, [.int i_this_thrown, .int i_this_kind, .int i_this_form, .ref a_this_bits, .ref a_this_values, .ref a_this_has, .int i_this_fields, .int i_this_checks, .int i_this_symbols, .ref a_this_row, .int i_this_size, .ref a_this_seen, .int i_this_many, .ref a_this_told, .int i_this_right, .int i_this_mended, .int i_this_mask, .int i_this_turned, .ref a_this_word, .ref a_this_gone, .ref a_this_lines, .ref a_this_places, .ref a_this_square])), (a_this_gone, .inl (cZ, n_this_gone, .inl f_this_gone)), (a_this_lines, .inl (cI, n_this_lines, .inl f9)), (a_this_places, .inl (cI, n_this_places, .inl f10)), (a_this_word, .inl (cI, n_this_word, .inl f21))] → va_S A s.heap H locs → lv_has ls 7 [(0, .ref a_this), (1, .int v1), (2, .int v2), (4, .int v12), (5, .int v13)] → W p l e (headSpec wsX5_mend rm_X5_mend).room s m args below meth c H locs 0 0 Q (F0 m 168 ls [])) h (fun f21 h H locs ls hP hD hS hl => ?_) (fun K22 J22 h => ?_)
                  · refine lv_iload hx hb dX5_mend_168 (lv_at hl 3 rfl) ?_
                    exact J19 v12 f21 h _ _ _ hP hD hS (lv_sub hl [0, 1, 2, 4] rfl)
                  · refine lv_aload_n hx hb dX5_mend_107 rfl (lv_at hl 0 rfl) ?_
                    refine va_get (D := (dC, dI)) (ci := 4) (v := .ref a_this_lines) (C := RX5) (T := TX5) (N := 23) hx hb hts hn_X5_mend_X5 hown hK hP 0 rfl rfl 20 (by decide) (hts _ fl_X5_mend_43) (fun _ h9 => h9) rfl dX5_mend_108 ?_
                    refine lv_bipush (v := (9 : Int32)) hx hb dX5_mend_111 (by decide) ?_
                    refine lv_iload hx hb dX5_mend_113 (lv_at hl 4 rfl) ?_
                    refine lv_imul hx hb dX5_mend_115 ?_
                    refine lv_topi (fun v23 ev23 => ?_)
                    replace h := im_lt_u h v23 ev23
                    refine lv_iload_n hx hb dX5_mend_116 rfl (lv_at hl 1 rfl) ?_
                    refine lv_iadd hx hb dX5_mend_117 ?_
                    refine lv_topi (fun v24 ev24 => ?_)
                    replace h := im_lt_u h v24 ev24
                    refine lv_iload_n hx hb dX5_mend_118 rfl (lv_at hl 2 rfl) ?_
                    refine lv_iadd hx hb dX5_mend_119 ?_
                    refine lv_topi (fun v25 ev25 => ?_)
                    replace h := im_lt_u h v25 ev25
                    obtain ⟨q120, h⟩ := im_ld_u h
                    refine va_iald hx hb hK hP 2 0 rfl rfl q120 dX5_mend_120 ?_
                    refine lv_topi (fun v26 ev26 => ?_)
                    replace h := h v26 ev26
                    refine lv_istore (lv' := [(6, .int v26), (0, .ref a_this), (1, .int v1), (2, .int v2), (4, .int v12), (5, .int v13)]) hx hb dX5_mend_121 hl (by decide) rfl (fun ls hl => ?_)
                    refine lv_aload_n hx hb dX5_mend_123 rfl (lv_at hl 1 rfl) ?_
                    refine va_get (D := (dC, dI)) (ci := 4) (v := .ref a_this_word) (C := RX5) (T := TX5) (N := 23) hx hb hts hn_X5_mend_X5 hown hK hP 0 rfl rfl 18 (by decide) (hts _ fl_X5_mend_37) (fun _ h9 => h9) rfl dX5_mend_124 ?_
                    refine lv_aload_n hx hb dX5_mend_127 rfl (lv_at hl 1 rfl) ?_
                    refine va_get (D := (dC, dI)) (ci := 4) (v := .ref a_this_places) (C := RX5) (T := TX5) (N := 23) hx hb hts hn_X5_mend_X5 hown hK hP 0 rfl rfl 21 (by decide) (hts _ fl_X5_mend_46) (fun _ h9 => h9) rfl dX5_mend_128 ?_
                    refine lv_iload hx hb dX5_mend_131 (lv_at hl 5 rfl) ?_
                    obtain ⟨q133, h⟩ := im_ld_u h
                    refine va_iald hx hb hK hP 3 0 rfl rfl q133 dX5_mend_133 ?_
                    refine lv_topi (fun v27 ev27 => ?_)
                    replace h := h v27 ev27
                    refine lv_aload_n hx hb dX5_mend_134 rfl (lv_at hl 1 rfl) ?_
                    refine va_get (D := (dC, dI)) (ci := 4) (v := .ref a_this_word) (C := RX5) (T := TX5) (N := 23) hx hb hts hn_X5_mend_X5 hown hK hP 0 rfl rfl 18 (by decide) (hts _ fl_X5_mend_37) (fun _ h9 => h9) rfl dX5_mend_135 ?_
                    refine lv_aload_n hx hb dX5_mend_138 rfl (lv_at hl 1 rfl) ?_
                    refine va_get (D := (dC, dI)) (ci := 4) (v := .ref a_this_places) (C := RX5) (T := TX5) (N := 23) hx hb hts hn_X5_mend_X5 hown hK hP 0 rfl rfl 21 (by decide) (hts _ fl_X5_mend_46) (fun _ h9 => h9) rfl dX5_mend_139 ?_
                    refine lv_iload hx hb dX5_mend_142 (lv_at hl 5 rfl) ?_
                    obtain ⟨q144, h⟩ := im_ld_u h
                    refine va_iald hx hb hK hP 3 0 rfl rfl q144 dX5_mend_144 ?_
                    refine lv_topi (fun v28 ev28 => ?_)
                    replace h := h v28 ev28
                    obtain ⟨q145, h⟩ := im_ld_u h
                    refine va_iald hx hb hK hP 4 0 rfl rfl q145 dX5_mend_145 ?_
                    refine lv_topi (fun v29 ev29 => ?_)
                    replace h := h v29 ev29
                    refine lv_iload hx hb dX5_mend_146 (lv_at hl 0 rfl) ?_
                    refine lv_ixor hx hb dX5_mend_148 ?_
                    refine lv_topi (fun v30 ev30 => ?_)
                    replace h := im_lt_u h v30 ev30
                    obtain ⟨q149, h⟩ := im_st_u h
                    refine va_iast hx hb hK hP hD hS 4 0 rfl rfl q149 dX5_mend_149 (fun H locs hP hD hS => ?_)
                    obtain ⟨f31, ef31⟩ : ∃ g : Nat → Int32, g = upd f14 v27.toNatClampNeg v30 := ⟨_, rfl⟩
                    replace h := h f31 ef31
                    rw [← ef31] at hP hD
                    have hP : va_P (dC, dI) vwCl [(a_this, .inr (4, [.int i_this_thrown, .int i_this_kind, .int i_this_form, .ref a_this_bits, .ref a_this_values, .ref a_this_has, .int i_this_fields, .int i_this_checks, .int i_this_symbols, .ref a_this_row, .int i_this_size, .ref a_this_seen, .int i_this_many, .ref a_this_told, .int i_this_right, .int i_this_mended, .int i_this_mask, .int i_this_turned, .ref a_this_word, .ref a_this_gone, .ref a_this_lines, .ref a_this_places, .ref a_this_square])), (a_this_gone, .inl (cZ, n_this_gone, .inl f_this_gone)), (a_this_lines, .inl (cI, n_this_lines, .inl f9)), (a_this_places, .inl (cI, n_this_places, .inl f10)), (a_this_word, .inl (cI, n_this_word, .inl f31))] H := hP
                    have hD : va_D A [(a_this, .inr (4, [.int i_this_thrown, .int i_this_kind, .int i_this_form, .ref a_this_bits, .ref a_this_values, .ref a_this_has, .int i_this_fields, .int i_this_checks, .int i_this_symbols, .ref a_this_row, .int i_this_size, .ref a_this_seen, .int i_this_many, .ref a_this_told, .int i_this_right, .int i_this_mended, .int i_this_mask, .int i_this_turned, .ref a_this_word, .ref a_this_gone, .ref a_this_lines, .ref a_this_places, .ref a_this_square])), (a_this_gone, .inl (cZ, n_this_gone, .inl f_this_gone)), (a_this_lines, .inl (cI, n_this_lines, .inl f9)), (a_this_places, .inl (cI, n_this_places, .inl f10)), (a_this_word, .inl (cI, n_this_word, .inl f31))] := hD
                    refine lv_iload hx hb dX5_mend_150 (lv_at hl 5 rfl) ?_
                    refine lv_iload_n hx hb dX5_mend_152 rfl (lv_at hl 2 rfl) ?_
                    refine lv_icmp_lt (tgt := 168) hx hb dX5_mend_153 (by decide) (fun c153 => ?_) (fun c153 => ?_)
                    · replace h := im_t c153 h
                      exact J22 f31 h _ _ _ hP hD hS (lv_sub hl [1, 2, 3, 4, 5] rfl)
                    · replace h := im_f c153 h
                      refine lv_iload hx hb dX5_mend_156 (lv_at hl 0 rfl) ?_
                      refine lv_if_eq (tgt := 168) hx hb dX5_mend_158 (by decide) (fun c158 => ?_) (fun c158 => ?_)
                      · replace h := im_t c158 h
                        exact J22 f31 h _ _ _ hP hD hS (lv_sub hl [1, 2, 3, 4, 5] rfl)
                      · replace h := im_f c158 h
                        refine lv_iload hx hb dX5_mend_161 (lv_at hl 4 rfl) ?_
                        refine lv_iconst (v := (1 : Int32)) hx hb dX5_mend_163 (by decide) ?_
                        refine lv_iadd hx hb dX5_mend_164 ?_
                        refine lv_topi (fun v32 ev32 => ?_)
                        replace h := im_lt_u h v32 ev32
                        refine lv_goto (tgt := 170) hx hb dX5_mend_165 (by decide) ?_
                        exact J19 v32 f31 h _ _ _ hP hD hS (lv_sub hl [1, 2, 3, 5] rfl)
          exact Lp15 5000 v1 (0 : Int32) f_this_word h _ _ _ hP hD hS (lv_sub hl [2, 3, 4, 1, 0] rfl)
        · replace h := im_t c88 h
          refine lv_iconst (v := (-1 : Int32)) hx hb dX5_mend_91 (by decide) ?_
          rw [eQ]
          exact W.iret (v := (-1 : Int32)) hx hb hr (fun t ht hW => ⟨⟨_, (f9, f10, f_this_word), rfl, Option.some.inj h, by rw [ht]; exact hP, va_K.moved hW.alike hK, hD⟩, hS.F ht⟩) hS.2.2 dX5_mend_92
      · have Lp36 : ∀ (n : Nat) (v33 : Int32) (f34 : Nat → Int32) (f35 : Nat → Int32), im_X5_mend_L59 v2 K11 v1 i_this_symbols n_this_gone n_this_places f_this_gone i_this_checks n_this_lines n_this_word f_this_word n v33 f34 f35 = some r → ∀ (H : Heap) (locs : List Loc) (ls : Array Slot), va_P (dC, dI) vwCl [(a_this, .inr (4, [.int i_this_thrown, .int i_this_kind, .int i_this_form, .ref a_this_bits, .ref a_this_values, .ref a_this_has, .int i_this_fields, .int i_this_checks, .int i_this_symbols, .ref a_this_row, .int i_this_size, .ref a_this_seen, .int i_this_many, .ref a_this_told, .int i_this_right, .int i_this_mended, .int i_this_mask, .int i_this_turned, .ref a_this_word, .ref a_this_gone, .ref a_this_lines, .ref a_this_places, .ref a_this_square])), (a_this_gone, .inl (cZ, n_this_gone, .inl f_this_gone)), (a_this_lines, .inl (cI, n_this_lines, .inl f34)), (a_this_places, .inl (cI, n_this_places, .inl f35)), (a_this_word, .inl (cI, n_this_word, .inl f_this_word))] H → va_D A [(a_this, .inr (4, [.int i_this_thrown, .int i_this_kind, .int i_this_form, .ref a_this_bits, .ref a_this_values, .ref a_this_has, .int i_this_fields, .int i_this_checks, .int i_this_symbols, .ref a_this_row, .int i_this_size, .ref a_this_seen, .int i_this_many, .ref a_this_told, .int i_this_right, .int i_this_mended, .int i_this_mask, .int i_this_turned, .ref a_this_word, .ref a_this_gone, .ref a_this_lines, .ref a_this_places, .ref a_this_square])), (a_this_gone, .inl (cZ, n_this_gone, .inl f_this_gone)), (a_this_lines, .inl (cI, n_this_lines, .inl f34)), (a_this_places, .inl (cI, n_this_places, .inl f35)), (a_this_word, .inl (cI, n_this_word, .inl f_this_word))] → va_S A s.heap H locs → lv_has ls 7 [(0, .ref a_this), (1, .int v1), (2, .int v2), (3, .int v33)] → W p l e (headSpec wsX5_mend rm_X5_mend).room s m args below meth c H locs 0 0 Q (F0 m 59 ls []) := by
          intro n
          induction n with
          | zero => intro v33 f34 f35 h; rw [im_X5_mend_L59] at h; cases h
          | succ n ih =>
            intro v33 f34 f35 h H locs ls hP hD hS hl
            rw [im_X5_mend_L59] at h
            refine lv_iload_n hx hb dX5_mend_59 rfl (lv_at hl 3 rfl) ?_
            refine lv_if_ne (tgt := 87) hx hb dX5_mend_60 (by decide) (fun c60 => ?_) (fun c60 => ?_)
            · replace h := im_f c60 h
              exact J11 v33 f34 f35 h _ _ _ hP hD hS (lv_sub hl [0, 1, 2, 3] rfl)
            · replace h := im_t c60 h
              refine lv_iload_n hx hb dX5_mend_63 rfl (lv_at hl 2 rfl) ?_
              refine lv_if_le (tgt := 87) hx hb dX5_mend_64 (by decide) (fun c64 => ?_) (fun c64 => ?_)
              · replace h := im_t c64 h
                exact J11 v33 f34 f35 h _ _ _ hP hD hS (lv_sub hl [0, 1, 2, 3] rfl)
              · replace h := im_f c64 h
                refine lv_aload_n hx hb dX5_mend_67 rfl (lv_at hl 0 rfl) ?_
                refine lv_iload_n hx hb dX5_mend_68 rfl (lv_at hl 1 rfl) ?_
                refine lv_iload_n hx hb dX5_mend_69 rfl (lv_at hl 2 rfl) ?_
                obtain ⟨v37, f38, y70, h⟩ := im_b2_u h
                have hPc := hP.sub (ws' := [(a_this, .inr (4, [.int i_this_thrown, .int i_this_kind, .int i_this_form, .ref a_this_bits, .ref a_this_values, .ref a_this_has, .int i_this_fields, .int i_this_checks, .int i_this_symbols, .ref a_this_row, .int i_this_size, .ref a_this_seen, .int i_this_many, .ref a_this_told, .int i_this_right, .int i_this_mended, .int i_this_mask, .int i_this_turned, .ref a_this_word, .ref a_this_gone, .ref a_this_lines, .ref a_this_places, .ref a_this_square])), (a_this_gone, .inl (cZ, n_this_gone, .inl f_this_gone)), (a_this_places, .inl (cI, n_this_places, .inl f35))]) [0, 1, 3] rfl
                have hDc := hD.sub (ws' := [(a_this, .inr (4, [.int i_this_thrown, .int i_this_kind, .int i_this_form, .ref a_this_bits, .ref a_this_values, .ref a_this_has, .int i_this_fields, .int i_this_checks, .int i_this_symbols, .ref a_this_row, .int i_this_size, .ref a_this_seen, .int i_this_many, .ref a_this_told, .int i_this_right, .int i_this_mended, .int i_this_mask, .int i_this_turned, .ref a_this_word, .ref a_this_gone, .ref a_this_lines, .ref a_this_places, .ref a_this_square])), (a_this_gone, .inl (cZ, n_this_gone, .inl f_this_gone)), (a_this_places, .inl (cI, n_this_places, .inl f35))]) [0, 1, 3] (by decide) rfl
                have hFc := va_free (wc := [(a_this, .inr (4, [.int i_this_thrown, .int i_this_kind, .int i_this_form, .ref a_this_bits, .ref a_this_values, .ref a_this_has, .int i_this_fields, .int i_this_checks, .int i_this_symbols, .ref a_this_row, .int i_this_size, .ref a_this_seen, .int i_this_many, .ref a_this_told, .int i_this_right, .int i_this_mended, .int i_this_mask, .int i_this_turned, .ref a_this_word, .ref a_this_gone, .ref a_this_lines, .ref a_this_places, .ref a_this_square])), (a_this_gone, .inl (cZ, n_this_gone, .inl f_this_gone)), (a_this_places, .inl (cI, n_this_places, .inl f35))]) hD hS hA [0, 1, 3] rfl
                refine va_calli (va_runV (As := [.int v1, .int v2]) (rest := []) ⟨hx, hb, hml, hown, hts⟩ (c_X5_next l dC dI cI cJ cZ H.size a_this a_this_bits a_this_values a_this_has a_this_row a_this_seen a_this_told a_this_word a_this_gone a_this_lines a_this_places a_this_square i_this_thrown i_this_kind i_this_form i_this_fields i_this_checks i_this_symbols i_this_size i_this_many i_this_right i_this_mended i_this_mask i_this_turned n_this_gone n_this_places f_this_gone f35 v1 v2 y70) (cwV 2 hts gX5_mend_X5_next rfl rfl rfl (by decide +kernel) ⟨Nat.le_of_ble_eq_true rfl, Nat.le_of_ble_eq_true rfl⟩) ⟨fun a U g mk q => by obtain ⟨q0, q1, qP, qK, qD⟩ := q; exact ⟨q0, q1, qP, va_K.moved (u := U) (U := U.calling g mk a) (Vm.Alike.refl U.vm) qK, qD⟩, va_recv hK hPc (ci := 4) (q0 := 0) rfl rfl, fun U hU hW => ⟨rfl, by rw [hU], by rw [hU]; exact hPc, va_K.moved hW.alike hK, hDc.weaken (fun _ _ _ _ => trivial)⟩⟩ rfl rfl hl.1 rfl (lv_room (Nat.le_of_ble_eq_true rfl)) dX5_mend_70 ⟨Nat.zero_le _, Nat.zero_le _⟩) hS (fun q _ h => hFc q h) hFc (fun r9 u9 t9 H1 locs ht9 hvm9 hw9 hB9 hz9 hk9 hS => ?_)
                obtain ⟨hP1, hK1, hD1⟩ := hB9
                rw [ht9] at hP1
                obtain ⟨e1, e2⟩ := Prod.mk.inj hw9
                have e1 := e1.symm
                have e2 := e2.symm
                subst e1
                subst e2
                obtain ⟨hP, hD⟩ := va_join (wr := [(a_this_lines, .inl (cI, n_this_lines, .inl f34)), (a_this_word, .inl (cI, n_this_word, .inl f_this_word))]) (w1 := [(a_this, .inr (4, [.int i_this_thrown, .int i_this_kind, .int i_this_form, .ref a_this_bits, .ref a_this_values, .ref a_this_has, .int i_this_fields, .int i_this_checks, .int i_this_symbols, .ref a_this_row, .int i_this_size, .ref a_this_seen, .int i_this_many, .ref a_this_told, .int i_this_right, .int i_this_mended, .int i_this_mask, .int i_this_turned, .ref a_this_word, .ref a_this_gone, .ref a_this_lines, .ref a_this_places, .ref a_this_square])), (a_this_gone, .inl (cZ, n_this_gone, .inl f_this_gone)), (a_this_places, .inl (cI, n_this_places, .inl f38))]) hP hD [0, 1, 3] [2, 4] rfl rfl (by decide) (by decide) hk9 hFc hP1 hD1
                generalize H1 = H at hP hS ⊢
                have hP := hP.sub (ws' := [(a_this, .inr (4, [.int i_this_thrown, .int i_this_kind, .int i_this_form, .ref a_this_bits, .ref a_this_values, .ref a_this_has, .int i_this_fields, .int i_this_checks, .int i_this_symbols, .ref a_this_row, .int i_this_size, .ref a_this_seen, .int i_this_many, .ref a_this_told, .int i_this_right, .int i_this_mended, .int i_this_mask, .int i_this_turned, .ref a_this_word, .ref a_this_gone, .ref a_this_lines, .ref a_this_places, .ref a_this_square])), (a_this_gone, .inl (cZ, n_this_gone, .inl f_this_gone)), (a_this_lines, .inl (cI, n_this_lines, .inl f34)), (a_this_places, .inl (cI, n_this_places, .inl f38)), (a_this_word, .inl (cI, n_this_word, .inl f_this_word))]) [2, 3, 0, 4, 1] rfl
                have hD := hD.sub (ws' := [(a_this, .inr (4, [.int i_this_thrown, .int i_this_kind, .int i_this_form, .ref a_this_bits, .ref a_this_values, .ref a_this_has, .int i_this_fields, .int i_this_checks, .int i_this_symbols, .ref a_this_row, .int i_this_size, .ref a_this_seen, .int i_this_many, .ref a_this_told, .int i_this_right, .int i_this_mended, .int i_this_mask, .int i_this_turned, .ref a_this_word, .ref a_this_gone, .ref a_this_lines, .ref a_this_places, .ref a_this_square])), (a_this_gone, .inl (cZ, n_this_gone, .inl f_this_gone)), (a_this_lines, .inl (cI, n_this_lines, .inl f34)), (a_this_places, .inl (cI, n_this_places, .inl f38)), (a_this_word, .inl (cI, n_this_word, .inl f_this_word))]) [2, 3, 0, 4, 1] (by decide) rfl
                refine lv_if_eq (tgt := 87) hx hb dX5_mend_73 (by decide) (fun c73 => ?_) (fun c73 => ?_)
                · replace h := im_t c73 h
                  exact J11 v33 f34 f38 h _ _ _ hP hD hS (lv_sub hl [0, 1, 2, 3] rfl)
                · replace h := im_f c73 h
                  refine lv_aload_n hx hb dX5_mend_76 rfl (lv_at hl 0 rfl) ?_
                  refine lv_iload_n hx hb dX5_mend_77 rfl (lv_at hl 1 rfl) ?_
                  refine lv_iload_n hx hb dX5_mend_78 rfl (lv_at hl 2 rfl) ?_
                  refine lv_iadd hx hb dX5_mend_79 ?_
                  refine lv_topi (fun v39 ev39 => ?_)
                  replace h := im_lt_u h v39 ev39
                  obtain ⟨v40, f41, y80, h⟩ := im_b2_u h
                  have hPc := hP.sub (ws' := [(a_this, .inr (4, [.int i_this_thrown, .int i_this_kind, .int i_this_form, .ref a_this_bits, .ref a_this_values, .ref a_this_has, .int i_this_fields, .int i_this_checks, .int i_this_symbols, .ref a_this_row, .int i_this_size, .ref a_this_seen, .int i_this_many, .ref a_this_told, .int i_this_right, .int i_this_mended, .int i_this_mask, .int i_this_turned, .ref a_this_word, .ref a_this_gone, .ref a_this_lines, .ref a_this_places, .ref a_this_square])), (a_this_lines, .inl (cI, n_this_lines, .inl f34)), (a_this_places, .inl (cI, n_this_places, .inl f38)), (a_this_word, .inl (cI, n_this_word, .inl f_this_word))]) [0, 2, 3, 4] rfl
                  have hDc := hD.sub (ws' := [(a_this, .inr (4, [.int i_this_thrown, .int i_this_kind, .int i_this_form, .ref a_this_bits, .ref a_this_values, .ref a_this_has, .int i_this_fields, .int i_this_checks, .int i_this_symbols, .ref a_this_row, .int i_this_size, .ref a_this_seen, .int i_this_many, .ref a_this_told, .int i_this_right, .int i_this_mended, .int i_this_mask, .int i_this_turned, .ref a_this_word, .ref a_this_gone, .ref a_this_lines, .ref a_this_places, .ref a_this_square])), (a_this_lines, .inl (cI, n_this_lines, .inl f34)), (a_this_places, .inl (cI, n_this_places, .inl f38)), (a_this_word, .inl (cI, n_this_word, .inl f_this_word))]) [0, 2, 3, 4] (by decide) rfl
                  have hFc := va_free (wc := [(a_this, .inr (4, [.int i_this_thrown, .int i_this_kind, .int i_this_form, .ref a_this_bits, .ref a_this_values, .ref a_this_has, .int i_this_fields, .int i_this_checks, .int i_this_symbols, .ref a_this_row, .int i_this_size, .ref a_this_seen, .int i_this_many, .ref a_this_told, .int i_this_right, .int i_this_mended, .int i_this_mask, .int i_this_turned, .ref a_this_word, .ref a_this_gone, .ref a_this_lines, .ref a_this_places, .ref a_this_square])), (a_this_lines, .inl (cI, n_this_lines, .inl f34)), (a_this_places, .inl (cI, n_this_places, .inl f38)), (a_this_word, .inl (cI, n_this_word, .inl f_this_word))]) hD hS hA [0, 2, 3, 4] rfl
                  refine va_calli (va_runV (As := [.int v39]) (rest := []) ⟨hx, hb, hml, hown, hts⟩ (c_X5_solve l dC dI cI cJ cZ H.size a_this a_this_bits a_this_values a_this_has a_this_row a_this_seen a_this_told a_this_word a_this_gone a_this_lines a_this_places a_this_square i_this_thrown i_this_kind i_this_form i_this_fields i_this_checks i_this_symbols i_this_size i_this_many i_this_right i_this_mended i_this_mask i_this_turned n_this_lines n_this_places n_this_word f34 f38 f_this_word v39 y80) (cwV 1 hts gX5_mend_X5_solve rfl rfl rfl (by decide +kernel) ⟨Nat.le_of_ble_eq_true rfl, Nat.le_of_ble_eq_true rfl⟩) ⟨fun a U g mk q => by obtain ⟨q0, q1, qP, qK, qD⟩ := q; exact ⟨q0, q1, qP, va_K.moved (u := U) (U := U.calling g mk a) (Vm.Alike.refl U.vm) qK, qD⟩, va_recv hK hPc (ci := 4) (q0 := 0) rfl rfl, fun U hU hW => ⟨rfl, by rw [hU], by rw [hU]; exact hPc, va_K.moved hW.alike hK, hDc.weaken (fun _ _ _ _ => trivial)⟩⟩ rfl rfl hl.1 rfl (lv_room (Nat.le_of_ble_eq_true rfl)) dX5_mend_80 ⟨Nat.zero_le _, Nat.zero_le _⟩) hS (fun q _ h => hFc q h) hFc (fun r9 u9 t9 H1 locs ht9 hvm9 hw9 hB9 hz9 hk9 hS => ?_)
                  obtain ⟨hP1, hK1, hD1⟩ := hB9
                  rw [ht9] at hP1
                  obtain ⟨e1, e2⟩ := Prod.mk.inj hw9
                  have e1 := e1.symm
                  have e2 := e2.symm
                  subst e1
                  subst e2
                  obtain ⟨hP, hD⟩ := va_join (wr := [(a_this_gone, .inl (cZ, n_this_gone, .inl f_this_gone))]) (w1 := [(a_this, .inr (4, [.int i_this_thrown, .int i_this_kind, .int i_this_form, .ref a_this_bits, .ref a_this_values, .ref a_this_has, .int i_this_fields, .int i_this_checks, .int i_this_symbols, .ref a_this_row, .int i_this_size, .ref a_this_seen, .int i_this_many, .ref a_this_told, .int i_this_right, .int i_this_mended, .int i_this_mask, .int i_this_turned, .ref a_this_word, .ref a_this_gone, .ref a_this_lines, .ref a_this_places, .ref a_this_square])), (a_this_lines, .inl (cI, n_this_lines, .inl f41)), (a_this_places, .inl (cI, n_this_places, .inl f38)), (a_this_word, .inl (cI, n_this_word, .inl f_this_word))]) hP hD [0, 2, 3, 4] [1] rfl rfl (by decide) (by decide) hk9 hFc hP1 hD1
                  generalize H1 = H at hP hS ⊢
                  have hP := hP.sub (ws' := [(a_this, .inr (4, [.int i_this_thrown, .int i_this_kind, .int i_this_form, .ref a_this_bits, .ref a_this_values, .ref a_this_has, .int i_this_fields, .int i_this_checks, .int i_this_symbols, .ref a_this_row, .int i_this_size, .ref a_this_seen, .int i_this_many, .ref a_this_told, .int i_this_right, .int i_this_mended, .int i_this_mask, .int i_this_turned, .ref a_this_word, .ref a_this_gone, .ref a_this_lines, .ref a_this_places, .ref a_this_square])), (a_this_gone, .inl (cZ, n_this_gone, .inl f_this_gone)), (a_this_lines, .inl (cI, n_this_lines, .inl f41)), (a_this_places, .inl (cI, n_this_places, .inl f38)), (a_this_word, .inl (cI, n_this_word, .inl f_this_word))]) [1, 0, 2, 3, 4] rfl
                  have hD := hD.sub (ws' := [(a_this, .inr (4, [.int i_this_thrown, .int i_this_kind, .int i_this_form, .ref a_this_bits, .ref a_this_values, .ref a_this_has, .int i_this_fields, .int i_this_checks, .int i_this_symbols, .ref a_this_row, .int i_this_size, .ref a_this_seen, .int i_this_many, .ref a_this_told, .int i_this_right, .int i_this_mended, .int i_this_mask, .int i_this_turned, .ref a_this_word, .ref a_this_gone, .ref a_this_lines, .ref a_this_places, .ref a_this_square])), (a_this_gone, .inl (cZ, n_this_gone, .inl f_this_gone)), (a_this_lines, .inl (cI, n_this_lines, .inl f41)), (a_this_places, .inl (cI, n_this_places, .inl f38)), (a_this_word, .inl (cI, n_this_word, .inl f_this_word))]) [1, 0, 2, 3, 4] (by decide) rfl
                  refine lv_istore_n (lv' := [(3, .int v40), (0, .ref a_this), (1, .int v1), (2, .int v2)]) hx hb dX5_mend_83 rfl hl (by decide) rfl (fun ls hl => ?_)
                  refine lv_goto (tgt := 59) hx hb dX5_mend_84 (by decide) ?_
                  exact ih v40 f41 f38 h _ _ _ hP hD hS (lv_sub hl [1, 2, 3, 0] rfl)
        exact Lp36 300000 v6 f7 f4 h _ _ _ hP hD hS (lv_sub hl [2, 3, 1, 0] rfl)
    · refine lv_aload_n hx hb dX5_mend_15 rfl (lv_at hl 1 rfl) ?_
      refine va_get (D := (dC, dI)) (ci := 4) (v := .int i_this_checks) (C := RX5) (T := TX5) (N := 23) hx hb hts hn_X5_mend_X5 hown hK hP 0 rfl rfl 7 (by decide) (hts _ fl_X5_mend_62) (fun _ h9 => h9) rfl dX5_mend_16 ?_
      refine lv_iload_n hx hb dX5_mend_19 rfl (lv_at hl 0 rfl) ?_
      refine lv_isub hx hb dX5_mend_20 ?_
      refine lv_topi (fun v42 ev42 => ?_)
      replace h := im_lt_u h v42 ev42
      refine lv_iconst (v := (2 : Int32)) hx hb dX5_mend_21 (by decide) ?_
      refine lv_idiv hx hb dX5_mend_22 (by decide) ?_
      refine lv_topi (fun v43 ev43 => ?_)
      replace h := im_lt_u h v43 ev43
      refine lv_istore_n (lv' := [(2, .int v43), (1, .int v1), (0, .ref a_this)]) hx hb dX5_mend_23 rfl hl (by decide) rfl (fun ls hl => ?_)
      refine lv_iload_n hx hb dX5_mend_24 rfl (lv_at hl 0 rfl) ?_
      refine lv_aload_n hx hb dX5_mend_25 rfl (lv_at hl 2 rfl) ?_
      refine va_get (D := (dC, dI)) (ci := 4) (v := .int i_this_symbols) (C := RX5) (T := TX5) (N := 23) hx hb hts hn_X5_mend_X5 hown hK hP 0 rfl rfl 8 (by decide) (hts _ fl_X5_mend_65) (fun _ h9 => h9) rfl dX5_mend_26 ?_
      refine lv_iload_n hx hb dX5_mend_29 rfl (lv_at hl 1 rfl) ?_
      refine lv_isub hx hb dX5_mend_30 ?_
      refine lv_topi (fun v44 ev44 => ?_)
      replace h := im_lt_u h v44 ev44
      refine lv_icmp_le (tgt := 43) hx hb dX5_mend_31 (by decide) (fun c31 => ?_) (fun c31 => ?_)
      · replace h := im_t c31 h
        refine lv_iload_n hx hb dX5_mend_43 rfl (lv_at hl 0 rfl) ?_
        exact J3 v43 h _ _ _ hP hD hS (lv_sub hl [2, 1] rfl)
      · replace h := im_f c31 h
        refine lv_aload_n hx hb dX5_mend_34 rfl (lv_at hl 2 rfl) ?_
        refine va_get (D := (dC, dI)) (ci := 4) (v := .int i_this_symbols) (C := RX5) (T := TX5) (N := 23) hx hb hts hn_X5_mend_X5 hown hK hP 0 rfl rfl 8 (by decide) (hts _ fl_X5_mend_65) (fun _ h9 => h9) rfl dX5_mend_35 ?_
        refine lv_iload_n hx hb dX5_mend_38 rfl (lv_at hl 1 rfl) ?_
        refine lv_isub hx hb dX5_mend_39 ?_
        refine lv_topi (fun v45 ev45 => ?_)
        replace h := im_lt_u h v45 ev45
        refine lv_goto (tgt := 44) hx hb dX5_mend_40 (by decide) ?_
        exact J3 v45 h _ _ _ hP hD hS (lv_sub hl [2, 1] rfl)
  · replace h := im_f c10 h
    refine lv_iconst (v := (-1 : Int32)) hx hb dX5_mend_13 (by decide) ?_
    rw [eQ]
    exact W.iret (v := (-1 : Int32)) hx hb hr (fun t ht hW => ⟨⟨_, (f_this_lines, f_this_places, f_this_word), rfl, Option.some.inj h, by rw [ht]; exact hP, va_K.moved hW.alike hK, hD⟩, hS.F ht⟩) hS.2.2 dX5_mend_14
