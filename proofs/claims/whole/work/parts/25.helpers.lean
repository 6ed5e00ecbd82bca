def im_L_cell (x1 : Int32) (n_p0 : Nat) (f_p0 : Nat → Int32) : Option (Int32) := if (nI n_p0) ≤ x1 then (some (0 : Int32)) else im_ld n_p0 f_p0 x1 (fun v1 => (some v1))
abbrev rm_L_cell : Room := { frames := 0, cells := 0, slots := 0, locals := 0 }
set_option maxHeartbeats 4000000 in
set_option maxRecDepth 100000 in
theorem c_L_cell (l : Launch) (dC : Nat → ClassId) (dI : Nat → Nat → Nat) (cI cJ cZ : ClassId) (a_p0 : Nat) (n_p0 : Nat) (f_p0 : Nat → Int32) (x1 : Int32) {r : Int32} (h : im_L_cell x1 n_p0 f_p0 = some r) : Met l yL_cell wsL_cell rm_L_cell (va_Pc [.ref a_p0, .int x1] (fun U => va_T .int a_p0 n_p0 (fun j => .int (f_p0 j)) (fun _ => False) U U.heap)) (vp_Si (fun r9 => r9 = r)) 0 0 (fun _ => False) := by
  refine Met.ofW (cc := cL_cell) (maxL := 2) (ret := (some .int)) (by decide) rfl ?_
  intro p e s m args below meth c s₁ B hml hv
  obtain ⟨eargs, hT_p0⟩ := hv
  have hx := B.exec
  have hb := B.bytes
  have hr := B.returns
  have hts := atoms_spec (ws := wsL_cell) B.pre
  have hown : s.vm.findClass RL = some m.cls := findClass_of_methodNamed B.named
  have hlocks := B.notSynchronized
  refine im_Q (fun Q eQ => ?_)
  have hl := lv_entry [.ref a_p0, .int x1] (n := 2) (Nat.le_of_ble_eq_true rfl)
  rw [show entryFrame m args 2 = entryFrame m ([.ref a_p0, .int x1] : List Value).toArray 2 by rw [eargs], lg_entry_eq]
  generalize (lg_sl ([.ref a_p0, .int x1]) ++ List.replicate (2 - (lg_sl ([.ref a_p0, .int x1])).length) Slot.unset).toArray = ls at hl ⊢
  have hl : lv_has ls 2 [(0, .ref a_p0), (1, .int x1)] := hl
  rw [im_L_cell] at h
  refine lv_iload_n hx hb dL_cell_0 rfl (lv_at hl 1 rfl) ?_
  refine lv_aload_n hx hb dL_cell_1 rfl (lv_at hl 0 rfl) ?_
  refine va_tlen hx hb hT_p0 (va_S.rf (A := fun _ => False)) (v := nI n_p0) rfl dL_cell_2 ?_
  refine lv_icmp_ge (tgt := 12) hx hb dL_cell_3 (by decide) (fun c3 => ?_) (fun c3 => ?_)
  · replace h := im_t c3 h
    refine lv_iconst (v := (0 : Int32)) hx hb dL_cell_12 (by decide) ?_
    rw [eQ]
    exact W.iret (v := (0 : Int32)) hx hb hr (fun t ht hW => ⟨_, rfl, Option.some.inj h, ht⟩) (fun _ h9 => by cases h9) dL_cell_13
  · replace h := im_f c3 h
    refine lv_aload_n hx hb dL_cell_6 rfl (lv_at hl 0 rfl) ?_
    refine lv_iload_n hx hb dL_cell_7 rfl (lv_at hl 1 rfl) ?_
    obtain ⟨q8, h⟩ := im_ld_u h
    refine va_ti hx hb hT_p0 (va_S.rf (A := fun _ => False)) q8 (v := .int (f_p0 x1.toNatClampNeg)) rfl dL_cell_8 ?_
    refine lv_topi (fun v1 ev1 => ?_)
    replace h := h v1 ev1
    refine lv_goto (tgt := 13) hx hb dL_cell_9 (by decide) ?_
    rw [eQ]
    exact W.iret (v := v1) hx hb hr (fun t ht hW => ⟨_, rfl, Option.some.inj h, ht⟩) (fun _ h9 => by cases h9) dL_cell_13
def im_L_field (x1 : Int32) (x2 : Int64) (n_p0_given : Nat) (n_p0_form_widths : Nat) (f_p0_given : Nat → Int64) (f_p0_form_widths : Nat → Int32) : Option (Int32 × (Nat → Int64)) := im_b2 (im_X4_field x1 x2 n_p0_given n_p0_form_widths f_p0_given f_p0_form_widths) (fun v1 f2 => if v1 = 0 then (some ((0 : Int32), f2)) else if v1 = 1 then (some ((1 : Int32), f_p0_given)) else (some ((2 : Int32), f_p0_given)))
abbrev rm_L_field : Room := { frames := 8, cells := 1, slots := 6, locals := 133 }
theorem kl_L_field_13 : Cond.classLink RL 13 "java/lang/IndexOutOfBoundsException" ∈ wsL_field := by decide +kernel
theorem kl_L_field_15 : Cond.classLink RL 15 "java/lang/IllegalArgumentException" ∈ wsL_field := by decide +kernel
theorem cw_L_field : Cond.codeWith yL_field cL_field 5 (some .int) [(0, 6, 9, 13), (0, 6, 13, 15)] ∈ wsL_field := by decide +kernel
set_option maxHeartbeats 4000000 in
set_option maxRecDepth 100000 in
theorem c_L_field (l : Launch) (hl9 : l.stackTraces = false) (dC : Nat → ClassId) (dI : Nat → Nat → Nat) (cI cJ cZ : ClassId) (sz : Nat) (a_p0 a_p0_form a_p0_code a_p0_given a_p0_made a_p0_seen a_p0_word a_p0_lost a_p0_told a_p0_form_widths : Nat) (i_p0_anyMade i_p0_seenCount i_p0_toldMended i_p0_toldTurned i_p0_latestMask i_p0_form_kind i_p0_form_checks i_p0_form_symbols i_p0_form_rowLength i_p0_form_highestBar i_p0_form_fourHeights i_p0_form_barBits i_p0_form_symbolBars i_p0_form_checkKey : Int32) (n_p0_given n_p0_form_widths : Nat) (f_p0_given : Nat → Int64) (f_p0_form_widths : Nat → Int32) (x1 : Int32) (x2 : Int64) {r : Int32 × (Nat → Int64)} (h : im_L_field x1 x2 n_p0_given n_p0_form_widths f_p0_given f_p0_form_widths = some r) : Met l yL_field wsL_field rm_L_field (va_Pc [.ref a_p0, .int x1, .long x2] (fun U => U.heap.size = sz ∧ va_P (dC, dI) vwCl [(a_p0, .inr (3, [.ref a_p0_form, .ref a_p0_code, .ref a_p0_given, .ref a_p0_made, .int i_p0_anyMade, .ref a_p0_seen, .int i_p0_seenCount, .ref a_p0_word, .ref a_p0_lost, .ref a_p0_told, .int i_p0_toldMended, .int i_p0_toldTurned, .int i_p0_latestMask])), (a_p0_form, .inr (2, [.int i_p0_form_kind, .ref a_p0_form_widths, .int i_p0_form_checks, .int i_p0_form_symbols, .int i_p0_form_rowLength, .int i_p0_form_highestBar, .int i_p0_form_fourHeights, .int i_p0_form_barBits, .int i_p0_form_symbolBars, .int i_p0_form_checkKey])), (a_p0_given, .inl (cJ, n_p0_given, .inr (.inl f_p0_given)))] U.heap ∧ va_K (dC, dI) vwCl [(cI, .int), (cJ, .long), (cZ, .boolean)] U ∧ va_D (fun _ => True) [(a_p0, .inr (3, [.ref a_p0_form, .ref a_p0_code, .ref a_p0_given, .ref a_p0_made, .int i_p0_anyMade, .ref a_p0_seen, .int i_p0_seenCount, .ref a_p0_word, .ref a_p0_lost, .ref a_p0_told, .int i_p0_toldMended, .int i_p0_toldTurned, .int i_p0_latestMask])), (a_p0_form, .inr (2, [.int i_p0_form_kind, .ref a_p0_form_widths, .int i_p0_form_checks, .int i_p0_form_symbols, .int i_p0_form_rowLength, .int i_p0_form_highestBar, .int i_p0_form_fourHeights, .int i_p0_form_barBits, .int i_p0_form_symbolBars, .int i_p0_form_checkKey])), (a_p0_given, .inl (cJ, n_p0_given, .inr (.inl f_p0_given)))] ∧ va_T .int a_p0_form_widths n_p0_form_widths (fun j => .int (f_p0_form_widths j)) (va_A [(a_p0, .inr (3, [.ref a_p0_form, .ref a_p0_code, .ref a_p0_given, .ref a_p0_made, .int i_p0_anyMade, .ref a_p0_seen, .int i_p0_seenCount, .ref a_p0_word, .ref a_p0_lost, .ref a_p0_told, .int i_p0_toldMended, .int i_p0_toldTurned, .int i_p0_latestMask])), (a_p0_form, .inr (2, [.int i_p0_form_kind, .ref a_p0_form_widths, .int i_p0_form_checks, .int i_p0_form_symbols, .int i_p0_form_rowLength, .int i_p0_form_highestBar, .int i_p0_form_fourHeights, .int i_p0_form_barBits, .int i_p0_form_symbolBars, .int i_p0_form_checkKey])), (a_p0_given, .inl (cJ, n_p0_given, .inr (.inl f_p0_given)))] sz) U U.heap ∧ xw U ∧ xz (va_A [(a_p0, .inr (3, [.ref a_p0_form, .ref a_p0_code, .ref a_p0_given, .ref a_p0_made, .int i_p0_anyMade, .ref a_p0_seen, .int i_p0_seenCount, .ref a_p0_word, .ref a_p0_lost, .ref a_p0_told, .int i_p0_toldMended, .int i_p0_toldTurned, .int i_p0_latestMask])), (a_p0_form, .inr (2, [.int i_p0_form_kind, .ref a_p0_form_widths, .int i_p0_form_checks, .int i_p0_form_symbols, .int i_p0_form_rowLength, .int i_p0_form_highestBar, .int i_p0_form_fourHeights, .int i_p0_form_barBits, .int i_p0_form_symbolBars, .int i_p0_form_checkKey])), (a_p0_given, .inl (cJ, n_p0_given, .inr (.inl f_p0_given)))] sz) U U.heap)) (va_Qi (S := (Nat → Int64)) (fun r9 u9 => (r9, u9) = r) (fun u9 t9 => va_P (dC, dI) vwCl [(a_p0, .inr (3, [.ref a_p0_form, .ref a_p0_code, .ref a_p0_given, .ref a_p0_made, .int i_p0_anyMade, .ref a_p0_seen, .int i_p0_seenCount, .ref a_p0_word, .ref a_p0_lost, .ref a_p0_told, .int i_p0_toldMended, .int i_p0_toldTurned, .int i_p0_latestMask])), (a_p0_form, .inr (2, [.int i_p0_form_kind, .ref a_p0_form_widths, .int i_p0_form_checks, .int i_p0_form_symbols, .int i_p0_form_rowLength, .int i_p0_form_highestBar, .int i_p0_form_fourHeights, .int i_p0_form_barBits, .int i_p0_form_symbolBars, .int i_p0_form_checkKey])), (a_p0_given, .inl (cJ, n_p0_given, .inr (.inl (u9))))] t9.heap ∧ va_K (dC, dI) vwCl [(cI, .int), (cJ, .long), (cZ, .boolean)] t9 ∧ va_D (va_A [(a_p0, .inr (3, [.ref a_p0_form, .ref a_p0_code, .ref a_p0_given, .ref a_p0_made, .int i_p0_anyMade, .ref a_p0_seen, .int i_p0_seenCount, .ref a_p0_word, .ref a_p0_lost, .ref a_p0_told, .int i_p0_toldMended, .int i_p0_toldTurned, .int i_p0_latestMask])), (a_p0_form, .inr (2, [.int i_p0_form_kind, .ref a_p0_form_widths, .int i_p0_form_checks, .int i_p0_form_symbols, .int i_p0_form_rowLength, .int i_p0_form_highestBar, .int i_p0_form_fourHeights, .int i_p0_form_barBits, .int i_p0_form_symbolBars, .int i_p0_form_checkKey])), (a_p0_given, .inl (cJ, n_p0_given, .inr (.inl f_p0_given)))] sz) [(a_p0, .inr (3, [.ref a_p0_form, .ref a_p0_code, .ref a_p0_given, .ref a_p0_made, .int i_p0_anyMade, .ref a_p0_seen, .int i_p0_seenCount, .ref a_p0_word, .ref a_p0_lost, .ref a_p0_told, .int i_p0_toldMended, .int i_p0_toldTurned, .int i_p0_latestMask])), (a_p0_form, .inr (2, [.int i_p0_form_kind, .ref a_p0_form_widths, .int i_p0_form_checks, .int i_p0_form_symbols, .int i_p0_form_rowLength, .int i_p0_form_highestBar, .int i_p0_form_fourHeights, .int i_p0_form_barBits, .int i_p0_form_symbolBars, .int i_p0_form_checkKey])), (a_p0_given, .inl (cJ, n_p0_given, .inr (.inl (u9))))]) (va_A [(a_p0, .inr (3, [.ref a_p0_form, .ref a_p0_code, .ref a_p0_given, .ref a_p0_made, .int i_p0_anyMade, .ref a_p0_seen, .int i_p0_seenCount, .ref a_p0_word, .ref a_p0_lost, .ref a_p0_told, .int i_p0_toldMended, .int i_p0_toldTurned, .int i_p0_latestMask])), (a_p0_form, .inr (2, [.int i_p0_form_kind, .ref a_p0_form_widths, .int i_p0_form_checks, .int i_p0_form_symbols, .int i_p0_form_rowLength, .int i_p0_form_highestBar, .int i_p0_form_fourHeights, .int i_p0_form_barBits, .int i_p0_form_symbolBars, .int i_p0_form_checkKey])), (a_p0_given, .inl (cJ, n_p0_given, .inr (.inl f_p0_given)))] sz)) 1 6 (va_A [(a_p0, .inr (3, [.ref a_p0_form, .ref a_p0_code, .ref a_p0_given, .ref a_p0_made, .int i_p0_anyMade, .ref a_p0_seen, .int i_p0_seenCount, .ref a_p0_word, .ref a_p0_lost, .ref a_p0_told, .int i_p0_toldMended, .int i_p0_toldTurned, .int i_p0_latestMask])), (a_p0_form, .inr (2, [.int i_p0_form_kind, .ref a_p0_form_widths, .int i_p0_form_checks, .int i_p0_form_symbols, .int i_p0_form_rowLength, .int i_p0_form_highestBar, .int i_p0_form_fourHeights, .int i_p0_form_barBits, .int i_p0_form_symbolBars, .int i_p0_form_checkKey])), (a_p0_given, .inl (cJ, n_p0_given, .inr (.inl f_p0_given)))] sz) := by
  refine va_MetW (cc := cL_field) (maxL := 5) (ret := (some .int)) (hh := [(0, 6, 9, 13), (0, 6, 13, 15)]) (by decide) rfl ?_
  intro p e s m args below meth c s₁ B hml hv
  obtain ⟨eargs, hsz, hP, hK, hD0, hT_p0_form_widths, hXw, hXz⟩ := hv
  have hx := B.exec
  have hb := B.bytes
  have hr := B.returns
  have hts := atoms_spec (ws := wsL_field) B.pre
  have hown : s.vm.findClass RL = some m.cls := findClass_of_methodNamed B.named
  have hlocks := B.notSynchronized
  have htab := vx_table (x := yL_field) B (hts _ cw_L_field)
  refine im_Q (fun Q eQ => ?_)
  subst hsz
  have hD := hD0.self (sz := s.heap.size)
  generalize hAe : va_A [(a_p0, .inr (3, [.ref a_p0_form, .ref a_p0_code, .ref a_p0_given, .ref a_p0_made, .int i_p0_anyMade, .ref a_p0_seen, .int i_p0_seenCount, .ref a_p0_word, .ref a_p0_lost, .ref a_p0_told, .int i_p0_toldMended, .int i_p0_toldTurned, .int i_p0_latestMask])), (a_p0_form, .inr (2, [.int i_p0_form_kind, .ref a_p0_form_widths, .int i_p0_form_checks, .int i_p0_form_symbols, .int i_p0_form_rowLength, .int i_p0_form_highestBar, .int i_p0_form_fourHeights, .int i_p0_form_barBits, .int i_p0_form_symbolBars, .int i_p0_form_checkKey])), (a_p0_given, .inl (cJ, n_p0_given, .inr (.inl f_p0_given)))] s.heap.size = A at hD eQ hT_p0_form_widths hXz
  have hA : ∀ q : Nat, s.heap.size ≤ q → A q := fun q h => by rw [← hAe]; exact Or.inr h
  have hS : va_S A s.heap s.heap [] := va_S.rf
  have hl := lv_entry [.ref a_p0, .int x1, .long x2] (n := 5) (Nat.le_of_ble_eq_true rfl)
  rw [show entryFrame m args 5 = entryFrame m ([.ref a_p0, .int x1, .long x2] : List Value).toArray 5 by rw [eargs], lg_entry_eq]
  generalize (lg_sl ([.ref a_p0, .int x1, .long x2]) ++ List.replicate (5 - (lg_sl ([.ref a_p0, .int x1, .long x2])).length) Slot.unset).toArray = ls at hl ⊢
  have hl : lv_has ls 5 [(0, .ref a_p0), (1, .int x1), (2, .long x2)] := hl
  rw [im_L_field] at h
  refine lv_aload_n hx hb dL_field_0 rfl (lv_at hl 0 rfl) ?_
  refine lv_iload_n hx hb dL_field_1 rfl (lv_at hl 1 rfl) ?_
  refine lv_lload_n hx hb dL_field_2 rfl (lv_at hl 2 rfl) ?_
  obtain ⟨v1, f2, y3, h⟩ := im_b2_u h
  have hPc := hP.sub (ws' := [(a_p0, .inr (3, [.ref a_p0_form, .ref a_p0_code, .ref a_p0_given, .ref a_p0_made, .int i_p0_anyMade, .ref a_p0_seen, .int i_p0_seenCount, .ref a_p0_word, .ref a_p0_lost, .ref a_p0_told, .int i_p0_toldMended, .int i_p0_toldTurned, .int i_p0_latestMask])), (a_p0_form, .inr (2, [.int i_p0_form_kind, .ref a_p0_form_widths, .int i_p0_form_checks, .int i_p0_form_symbols, .int i_p0_form_rowLength, .int i_p0_form_highestBar, .int i_p0_form_fourHeights, .int i_p0_form_barBits, .int i_p0_form_symbolBars, .int i_p0_form_checkKey])), (a_p0_given, .inl (cJ, n_p0_given, .inr (.inl f_p0_given)))]) [0, 1, 2] rfl
  have hDc := hD.sub (ws' := [(a_p0, .inr (3, [.ref a_p0_form, .ref a_p0_code, .ref a_p0_given, .ref a_p0_made, .int i_p0_anyMade, .ref a_p0_seen, .int i_p0_seenCount, .ref a_p0_word, .ref a_p0_lost, .ref a_p0_told, .int i_p0_toldMended, .int i_p0_toldTurned, .int i_p0_latestMask])), (a_p0_form, .inr (2, [.int i_p0_form_kind, .ref a_p0_form_widths, .int i_p0_form_checks, .int i_p0_form_symbols, .int i_p0_form_rowLength, .int i_p0_form_highestBar, .int i_p0_form_fourHeights, .int i_p0_form_barBits, .int i_p0_form_symbolBars, .int i_p0_form_checkKey])), (a_p0_given, .inl (cJ, n_p0_given, .inr (.inl f_p0_given)))]) [0, 1, 2] (by decide) rfl
  have hFc := va_free (wc := [(a_p0, .inr (3, [.ref a_p0_form, .ref a_p0_code, .ref a_p0_given, .ref a_p0_made, .int i_p0_anyMade, .ref a_p0_seen, .int i_p0_seenCount, .ref a_p0_word, .ref a_p0_lost, .ref a_p0_told, .int i_p0_toldMended, .int i_p0_toldTurned, .int i_p0_latestMask])), (a_p0_form, .inr (2, [.int i_p0_form_kind, .ref a_p0_form_widths, .int i_p0_form_checks, .int i_p0_form_symbols, .int i_p0_form_rowLength, .int i_p0_form_highestBar, .int i_p0_form_fourHeights, .int i_p0_form_barBits, .int i_p0_form_symbolBars, .int i_p0_form_checkKey])), (a_p0_given, .inl (cJ, n_p0_given, .inr (.inl f_p0_given)))]) hD hS hA [0, 1, 2] rfl
  refine vx_callv (vx_runV (As := [.int x1, .long x2]) (rest := []) ⟨hx, hb, hml, hown, hts⟩ (c_X4_field l hl9 dC dI cI cJ cZ s.heap.size a_p0 a_p0_form a_p0_code a_p0_given a_p0_made a_p0_seen a_p0_word a_p0_lost a_p0_told a_p0_form_widths i_p0_anyMade i_p0_seenCount i_p0_toldMended i_p0_toldTurned i_p0_latestMask i_p0_form_kind i_p0_form_checks i_p0_form_symbols i_p0_form_rowLength i_p0_form_highestBar i_p0_form_fourHeights i_p0_form_barBits i_p0_form_symbolBars i_p0_form_checkKey n_p0_given n_p0_form_widths f_p0_given f_p0_form_widths x1 x2 y3) (cwV 2 hts gL_field_X4_field rfl rfl rfl (by decide +kernel) ⟨Nat.le_of_ble_eq_true rfl, Nat.le_of_ble_eq_true rfl⟩) ⟨fun a U g mk q => by obtain ⟨q0, q1, qP, qK, qD, t0, qX, qZ⟩ := q; exact ⟨q0, q1, qP, va_K.moved (u := U) (U := U.calling g mk a) (Vm.Alike.refl U.vm) qK, qD, va_T.moved (u := U) (U := U.calling g mk a) (Vm.Alike.refl U.vm) t0, xw_call qX, xz.moved (u := U) (U := U.calling g mk a) (Vm.Alike.refl U.vm) qZ⟩, va_recv hK hPc (ci := 3) (q0 := 0) rfl rfl, fun U hU hW => ⟨rfl, by rw [hU], by rw [hU]; exact hPc, va_K.moved hW.alike hK, hDc.weaken (fun _ _ _ _ => trivial), by rw [hU]; exact va_T.moved hW.alike (va_T.narrow (va_T.kept hT_p0_form_widths hS.2.1) hFc), xw_warm hW hXw, by rw [hU]; exact xz.moved hW.alike (xz.narrow (xz.kept hXz hS.2.1) hFc)⟩⟩ rfl rfl hl.1 rfl (lv_room (Nat.le_of_ble_eq_true rfl)) dL_field_3 ⟨Nat.le_of_ble_eq_true rfl, Nat.le_of_ble_eq_true rfl⟩) hS (fun q _ h => hFc q h) hFc (fun q _ h => hFc q h) (fun E9 ce9 q9 u9 t9 H1 locs ht9 hvm9 hpx9 hBX9 hz9 hk9 hS hce9 hcv9 hcl9 => ?_) (fun u9 t9 H1 locs ht9 hvm9 hw9 hB9 hz9 hk9 hS => ?_)
  · obtain ⟨hcode, hP1, hK1, hD1⟩ := hBX9
    rw [ht9] at hP1
    obtain ⟨hP, hD⟩ := va_join (wr := []) (w1 := [(a_p0, .inr (3, [.ref a_p0_form, .ref a_p0_code, .ref a_p0_given, .ref a_p0_made, .int i_p0_anyMade, .ref a_p0_seen, .int i_p0_seenCount, .ref a_p0_word, .ref a_p0_lost, .ref a_p0_told, .int i_p0_toldMended, .int i_p0_toldTurned, .int i_p0_latestMask])), (a_p0_form, .inr (2, [.int i_p0_form_kind, .ref a_p0_form_widths, .int i_p0_form_checks, .int i_p0_form_symbols, .int i_p0_form_rowLength, .int i_p0_form_highestBar, .int i_p0_form_fourHeights, .int i_p0_form_barBits, .int i_p0_form_symbolBars, .int i_p0_form_checkKey])), (a_p0_given, .inl (cJ, n_p0_given, .inr (.inl f_p0_given)))]) hP hD [0, 1, 2] [] rfl rfl (by decide) (by decide) hk9 hFc hP1 hD1
    have hP := hP.sub (ws' := [(a_p0, .inr (3, [.ref a_p0_form, .ref a_p0_code, .ref a_p0_given, .ref a_p0_made, .int i_p0_anyMade, .ref a_p0_seen, .int i_p0_seenCount, .ref a_p0_word, .ref a_p0_lost, .ref a_p0_told, .int i_p0_toldMended, .int i_p0_toldTurned, .int i_p0_latestMask])), (a_p0_form, .inr (2, [.int i_p0_form_kind, .ref a_p0_form_widths, .int i_p0_form_checks, .int i_p0_form_symbols, .int i_p0_form_rowLength, .int i_p0_form_highestBar, .int i_p0_form_fourHeights, .int i_p0_form_barBits, .int i_p0_form_symbolBars, .int i_p0_form_checkKey])), (a_p0_given, .inl (cJ, n_p0_given, .inr (.inl f_p0_given)))]) [0, 1, 2] rfl
    have hD := hD.sub (ws' := [(a_p0, .inr (3, [.ref a_p0_form, .ref a_p0_code, .ref a_p0_given, .ref a_p0_made, .int i_p0_anyMade, .ref a_p0_seen, .int i_p0_seenCount, .ref a_p0_word, .ref a_p0_lost, .ref a_p0_told, .int i_p0_toldMended, .int i_p0_toldTurned, .int i_p0_latestMask])), (a_p0_form, .inr (2, [.int i_p0_form_kind, .ref a_p0_form_widths, .int i_p0_form_checks, .int i_p0_form_symbols, .int i_p0_form_rowLength, .int i_p0_form_highestBar, .int i_p0_form_fourHeights, .int i_p0_form_barBits, .int i_p0_form_symbolBars, .int i_p0_form_checkKey])), (a_p0_given, .inl (cJ, n_p0_given, .inr (.inl f_p0_given)))]) [0, 1, 2] (by decide) rfl
    rcases hcode with ⟨rfl, hc9⟩ | ⟨rfl, hc9⟩
    · have hc9 : v1 = 1 := hc9
      replace h := im_f (by rw [hc9]; decide) h
      replace h := im_t hc9 h
      refine wx_catch (E := "java/lang/IndexOutOfBoundsException") (name := "java/lang/IndexOutOfBoundsException") hown [] ⟨0, 6, 9, 13⟩ [⟨0, 6, 13, 15⟩] (htab.trans rfl) (fun z hz => by cases hz) (by decide) (by decide) (hts _ kl_L_field_13) (va_Nw.use rfl (xw_c_IO hXw)) hce9 hcv9 hcl9 ?_
      refine lv_astore (lv' := [(4, .ref q9), (0, .ref a_p0), (1, .int x1), (2, .long x2)]) hx hb dL_field_9 hl (by decide) rfl (fun ls hl => ?_)
      refine lv_iconst (v := (1 : Int32)) hx hb dL_field_11 (by decide) ?_
      rw [eQ]
      refine W.widen (k := 1) (n := 6) (by omega) (by omega) ?_
      exact W.iret (v := (1 : Int32)) hx hb hr (fun t ht hW => ⟨⟨_, f_p0_given, rfl, Option.some.inj h, by rw [ht]; exact hP, va_K.moved hW.alike hK, hD⟩, hS.F ht⟩) hS.2.2 dL_field_12
    · have hc9 : v1 = 2 := hc9
      replace h := im_f (by rw [hc9]; decide) h
      replace h := im_f (by rw [hc9]; decide) h
      refine wx_catch (E := "java/lang/IllegalArgumentException") (name := "java/lang/IllegalArgumentException") hown [⟨0, 6, 9, 13⟩] ⟨0, 6, 13, 15⟩ [] (htab.trans rfl) (fun z hz => by rw [List.mem_singleton.mp hz]; exact Or.inr ⟨by decide, "java/lang/IndexOutOfBoundsException", hts _ kl_L_field_13, xw_n_IA hXw⟩) (by decide) (by decide) (hts _ kl_L_field_15) (va_Nw.use rfl (xw_c_IA hXw)) hce9 hcv9 hcl9 ?_
      refine lv_astore (lv' := [(4, .ref q9), (0, .ref a_p0), (1, .int x1), (2, .long x2)]) hx hb dL_field_13 hl (by decide) rfl (fun ls hl => ?_)
      refine lv_iconst (v := (2 : Int32)) hx hb dL_field_15 (by decide) ?_
      rw [eQ]
      refine W.widen (k := 1) (n := 6) (by omega) (by omega) ?_
      exact W.iret (v := (2 : Int32)) hx hb hr (fun t ht hW => ⟨⟨_, f_p0_given, rfl, Option.some.inj h, by rw [ht]; exact hP, va_K.moved hW.alike hK, hD⟩, hS.F ht⟩) hS.2.2 dL_field_16
  · obtain ⟨hP1, hK1, hD1⟩ := hB9
    rw [ht9] at hP1
    obtain ⟨e0, e1⟩ := Prod.mk.inj hw9
    have e1 := e1.symm
    subst e0
    subst e1
    replace h := im_t rfl h
    obtain ⟨hP, hD⟩ := va_join (wr := []) (w1 := [(a_p0, .inr (3, [.ref a_p0_form, .ref a_p0_code, .ref a_p0_given, .ref a_p0_made, .int i_p0_anyMade, .ref a_p0_seen, .int i_p0_seenCount, .ref a_p0_word, .ref a_p0_lost, .ref a_p0_told, .int i_p0_toldMended, .int i_p0_toldTurned, .int i_p0_latestMask])), (a_p0_form, .inr (2, [.int i_p0_form_kind, .ref a_p0_form_widths, .int i_p0_form_checks, .int i_p0_form_symbols, .int i_p0_form_rowLength, .int i_p0_form_highestBar, .int i_p0_form_fourHeights, .int i_p0_form_barBits, .int i_p0_form_symbolBars, .int i_p0_form_checkKey])), (a_p0_given, .inl (cJ, n_p0_given, .inr (.inl f2)))]) hP hD [0, 1, 2] [] rfl rfl (by decide) (by decide) hk9 hFc hP1 hD1
    have hP := hP.sub (ws' := [(a_p0, .inr (3, [.ref a_p0_form, .ref a_p0_code, .ref a_p0_given, .ref a_p0_made, .int i_p0_anyMade, .ref a_p0_seen, .int i_p0_seenCount, .ref a_p0_word, .ref a_p0_lost, .ref a_p0_told, .int i_p0_toldMended, .int i_p0_toldTurned, .int i_p0_latestMask])), (a_p0_form, .inr (2, [.int i_p0_form_kind, .ref a_p0_form_widths, .int i_p0_form_checks, .int i_p0_form_symbols, .int i_p0_form_rowLength, .int i_p0_form_highestBar, .int i_p0_form_fourHeights, .int i_p0_form_barBits, .int i_p0_form_symbolBars, .int i_p0_form_checkKey])), (a_p0_given, .inl (cJ, n_p0_given, .inr (.inl f2)))]) [0, 1, 2] rfl
    have hD := hD.sub (ws' := [(a_p0, .inr (3, [.ref a_p0_form, .ref a_p0_code, .ref a_p0_given, .ref a_p0_made, .int i_p0_anyMade, .ref a_p0_seen, .int i_p0_seenCount, .ref a_p0_word, .ref a_p0_lost, .ref a_p0_told, .int i_p0_toldMended, .int i_p0_toldTurned, .int i_p0_latestMask])), (a_p0_form, .inr (2, [.int i_p0_form_kind, .ref a_p0_form_widths, .int i_p0_form_checks, .int i_p0_form_symbols, .int i_p0_form_rowLength, .int i_p0_form_highestBar, .int i_p0_form_fourHeights, .int i_p0_form_barBits, .int i_p0_form_symbolBars, .int i_p0_form_checkKey])), (a_p0_given, .inl (cJ, n_p0_given, .inr (.inl f2)))]) [0, 1, 2] (by decide) rfl
    refine lv_goto (tgt := 17) hx hb dL_field_6 (by decide) ?_
    refine lv_iconst (v := (0 : Int32)) hx hb dL_field_17 (by decide) ?_
    rw [eQ]
    refine W.widen (k := 1) (n := 6) (by omega) (by omega) ?_
    exact W.iret (v := (0 : Int32)) hx hb hr (fun t ht hW => ⟨⟨_, f2, rfl, Option.some.inj h, by rw [ht]; exact hP, va_K.moved hW.alike hK, hD⟩, hS.F ht⟩) hS.2.2 dL_field_18
def im_L_bar (x1 : Int32) (i_p0_anyMade : Int32) (n_p0_made : Nat) (n_p2 : Nat) (f_p0_made : Nat → Int32) (f_p2 : Nat → Int64) : Option (Int32 × (Nat → Int64)) := im_b2 (im_X4_bar x1 i_p0_anyMade n_p0_made f_p0_made) (fun v1 v2 => if v1 = 0 then im_lt v2.toInt64 (fun v3 => im_stL n_p2 f_p2 (0 : Int32) v3 (fun f4 => (some ((0 : Int32), f4)))) else (some ((1 : Int32), f_p2)))
abbrev rm_L_bar : Room := { frames := 8, cells := 1, slots := 6, locals := 131 }
theorem kl_L_bar_21 : Cond.classLink RL 21 "java/lang/ArrayIndexOutOfBoundsException" ∈ wsL_barX := by decide +kernel
theorem cw_L_bar : Cond.codeWith yL_bar cL_bar 4 (some .int) [(0, 9, 12, 21)] ∈ wsL_barX := by decide +kernel
set_option maxHeartbeats 4000000 in
set_option maxRecDepth 100000 in
theorem c_L_bar (l : Launch) (hl9 : l.stackTraces = false) (dC : Nat → ClassId) (dI : Nat → Nat → Nat) (cI cJ cZ : ClassId) (sz : Nat) (a_p0 a_p0_form a_p0_code a_p0_given a_p0_made a_p0_seen a_p0_word a_p0_lost a_p0_told a_p2 : Nat) (i_p0_anyMade i_p0_seenCount i_p0_toldMended i_p0_toldTurned i_p0_latestMask : Int32) (n_p0_made n_p2 : Nat) (f_p0_made : Nat → Int32) (f_p2 : Nat → Int64) (x1 : Int32) {r : Int32 × (Nat → Int64)} (h : im_L_bar x1 i_p0_anyMade n_p0_made n_p2 f_p0_made f_p2 = some r) : Met l yL_bar wsL_barX rm_L_bar (va_Pc [.ref a_p0, .int x1, .ref a_p2] (fun U => U.heap.size = sz ∧ va_P (dC, dI) vwCl [(a_p0, .inr (3, [.ref a_p0_form, .ref a_p0_code, .ref a_p0_given, .ref a_p0_made, .int i_p0_anyMade, .ref a_p0_seen, .int i_p0_seenCount, .ref a_p0_word, .ref a_p0_lost, .ref a_p0_told, .int i_p0_toldMended, .int i_p0_toldTurned, .int i_p0_latestMask])), (a_p0_made, .inl (cI, n_p0_made, .inl f_p0_made)), (a_p2, .inl (cJ, n_p2, .inr (.inl f_p2)))] U.heap ∧ va_K (dC, dI) vwCl [(cI, .int), (cJ, .long), (cZ, .boolean)] U ∧ va_D (fun _ => True) [(a_p0, .inr (3, [.ref a_p0_form, .ref a_p0_code, .ref a_p0_given, .ref a_p0_made, .int i_p0_anyMade, .ref a_p0_seen, .int i_p0_seenCount, .ref a_p0_word, .ref a_p0_lost, .ref a_p0_told, .int i_p0_toldMended, .int i_p0_toldTurned, .int i_p0_latestMask])), (a_p0_made, .inl (cI, n_p0_made, .inl f_p0_made)), (a_p2, .inl (cJ, n_p2, .inr (.inl f_p2)))] ∧ xw U ∧ xz (va_A [(a_p0, .inr (3, [.ref a_p0_form, .ref a_p0_code, .ref a_p0_given, .ref a_p0_made, .int i_p0_anyMade, .ref a_p0_seen, .int i_p0_seenCount, .ref a_p0_word, .ref a_p0_lost, .ref a_p0_told, .int i_p0_toldMended, .int i_p0_toldTurned, .int i_p0_latestMask])), (a_p0_made, .inl (cI, n_p0_made, .inl f_p0_made)), (a_p2, .inl (cJ, n_p2, .inr (.inl f_p2)))] sz) U U.heap)) (va_Qi (S := (Nat → Int64)) (fun r9 u9 => (r9, u9) = r) (fun u9 t9 => va_P (dC, dI) vwCl [(a_p0, .inr (3, [.ref a_p0_form, .ref a_p0_code, .ref a_p0_given, .ref a_p0_made, .int i_p0_anyMade, .ref a_p0_seen, .int i_p0_seenCount, .ref a_p0_word, .ref a_p0_lost, .ref a_p0_told, .int i_p0_toldMended, .int i_p0_toldTurned, .int i_p0_latestMask])), (a_p0_made, .inl (cI, n_p0_made, .inl f_p0_made)), (a_p2, .inl (cJ, n_p2, .inr (.inl (u9))))] t9.heap ∧ va_K (dC, dI) vwCl [(cI, .int), (cJ, .long), (cZ, .boolean)] t9 ∧ va_D (va_A [(a_p0, .inr (3, [.ref a_p0_form, .ref a_p0_code, .ref a_p0_given, .ref a_p0_made, .int i_p0_anyMade, .ref a_p0_seen, .int i_p0_seenCount, .ref a_p0_word, .ref a_p0_lost, .ref a_p0_told, .int i_p0_toldMended, .int i_p0_toldTurned, .int i_p0_latestMask])), (a_p0_made, .inl (cI, n_p0_made, .inl f_p0_made)), (a_p2, .inl (cJ, n_p2, .inr (.inl f_p2)))] sz) [(a_p0, .inr (3, [.ref a_p0_form, .ref a_p0_code, .ref a_p0_given, .ref a_p0_made, .int i_p0_anyMade, .ref a_p0_seen, .int i_p0_seenCount, .ref a_p0_word, .ref a_p0_lost, .ref a_p0_told, .int i_p0_toldMended, .int i_p0_toldTurned, .int i_p0_latestMask])), (a_p0_made, .inl (cI, n_p0_made, .inl f_p0_made)), (a_p2, .inl (cJ, n_p2, .inr (.inl (u9))))]) (va_A [(a_p0, .inr (3, [.ref a_p0_form, .ref a_p0_code, .ref a_p0_given, .ref a_p0_made, .int i_p0_anyMade, .ref a_p0_seen, .int i_p0_seenCount, .ref a_p0_word, .ref a_p0_lost, .ref a_p0_told, .int i_p0_toldMended, .int i_p0_toldTurned, .int i_p0_latestMask])), (a_p0_made, .inl (cI, n_p0_made, .inl f_p0_made)), (a_p2, .inl (cJ, n_p2, .inr (.inl f_p2)))] sz)) 1 6 (va_A [(a_p0, .inr (3, [.ref a_p0_form, .ref a_p0_code, .ref a_p0_given, .ref a_p0_made, .int i_p0_anyMade, .ref a_p0_seen, .int i_p0_seenCount, .ref a_p0_word, .ref a_p0_lost, .ref a_p0_told, .int i_p0_toldMended, .int i_p0_toldTurned, .int i_p0_latestMask])), (a_p0_made, .inl (cI, n_p0_made, .inl f_p0_made)), (a_p2, .inl (cJ, n_p2, .inr (.inl f_p2)))] sz) := by
  refine va_MetW (cc := cL_bar) (maxL := 4) (ret := (some .int)) (hh := [(0, 9, 12, 21)]) (by decide) rfl ?_
  intro p e s m args below meth c s₁ B hml hv
  obtain ⟨eargs, hsz, hP, hK, hD0, hXw, hXz⟩ := hv
  have hx := B.exec
  have hb := B.bytes
  have hr := B.returns
  have hts := atoms_spec (ws := wsL_barX) B.pre
  have hown : s.vm.findClass RL = some m.cls := findClass_of_methodNamed B.named
  have hlocks := B.notSynchronized
  have htab := vx_table (x := yL_bar) B (hts _ cw_L_bar)
  refine im_Q (fun Q eQ => ?_)
  subst hsz
  have hD := hD0.self (sz := s.heap.size)
  generalize hAe : va_A [(a_p0, .inr (3, [.ref a_p0_form, .ref a_p0_code, .ref a_p0_given, .ref a_p0_made, .int i_p0_anyMade, .ref a_p0_seen, .int i_p0_seenCount, .ref a_p0_word, .ref a_p0_lost, .ref a_p0_told, .int i_p0_toldMended, .int i_p0_toldTurned, .int i_p0_latestMask])), (a_p0_made, .inl (cI, n_p0_made, .inl f_p0_made)), (a_p2, .inl (cJ, n_p2, .inr (.inl f_p2)))] s.heap.size = A at hD eQ hXz
  have hA : ∀ q : Nat, s.heap.size ≤ q → A q := fun q h => by rw [← hAe]; exact Or.inr h
  have hS : va_S A s.heap s.heap [] := va_S.rf
  have hl := lv_entry [.ref a_p0, .int x1, .ref a_p2] (n := 4) (Nat.le_of_ble_eq_true rfl)
  rw [show entryFrame m args 4 = entryFrame m ([.ref a_p0, .int x1, .ref a_p2] : List Value).toArray 4 by rw [eargs], lg_entry_eq]
  generalize (lg_sl ([.ref a_p0, .int x1, .ref a_p2]) ++ List.replicate (4 - (lg_sl ([.ref a_p0, .int x1, .ref a_p2])).length) Slot.unset).toArray = ls at hl ⊢
  have hl : lv_has ls 4 [(0, .ref a_p0), (1, .int x1), (2, .ref a_p2)] := hl
  rw [im_L_bar] at h
  refine lv_aload_n hx hb dL_bar_0 rfl (lv_at hl 2 rfl) ?_
  refine lv_iconst (v := (0 : Int32)) hx hb dL_bar_1 (by decide) ?_
  refine lv_aload_n hx hb dL_bar_2 rfl (lv_at hl 0 rfl) ?_
  refine lv_iload_n hx hb dL_bar_3 rfl (lv_at hl 1 rfl) ?_
  obtain ⟨v1, v2, y4, h⟩ := im_b2_u h
  have hPc := hP.sub (ws' := [(a_p0, .inr (3, [.ref a_p0_form, .ref a_p0_code, .ref a_p0_given, .ref a_p0_made, .int i_p0_anyMade, .ref a_p0_seen, .int i_p0_seenCount, .ref a_p0_word, .ref a_p0_lost, .ref a_p0_told, .int i_p0_toldMended, .int i_p0_toldTurned, .int i_p0_latestMask])), (a_p0_made, .inl (cI, n_p0_made, .inl f_p0_made))]) [0, 1] rfl
  have hDc := hD.sub (ws' := [(a_p0, .inr (3, [.ref a_p0_form, .ref a_p0_code, .ref a_p0_given, .ref a_p0_made, .int i_p0_anyMade, .ref a_p0_seen, .int i_p0_seenCount, .ref a_p0_word, .ref a_p0_lost, .ref a_p0_told, .int i_p0_toldMended, .int i_p0_toldTurned, .int i_p0_latestMask])), (a_p0_made, .inl (cI, n_p0_made, .inl f_p0_made))]) [0, 1] (by decide) rfl
  have hFc := va_free (wc := [(a_p0, .inr (3, [.ref a_p0_form, .ref a_p0_code, .ref a_p0_given, .ref a_p0_made, .int i_p0_anyMade, .ref a_p0_seen, .int i_p0_seenCount, .ref a_p0_word, .ref a_p0_lost, .ref a_p0_told, .int i_p0_toldMended, .int i_p0_toldTurned, .int i_p0_latestMask])), (a_p0_made, .inl (cI, n_p0_made, .inl f_p0_made))]) hD hS hA [0, 1] rfl
  refine vx_calli (vx_runV (As := [.int x1]) (rest := [.int (0 : Int32), .ref a_p2]) ⟨hx, hb, hml, hown, hts⟩ (c_X4_bar l hl9 dC dI cI cJ cZ s.heap.size a_p0 a_p0_form a_p0_code a_p0_given a_p0_made a_p0_seen a_p0_word a_p0_lost a_p0_told i_p0_anyMade i_p0_seenCount i_p0_toldMended i_p0_toldTurned i_p0_latestMask n_p0_made f_p0_made x1 y4) (cwV 1 hts gL_barX rfl rfl rfl (by decide +kernel) ⟨Nat.le_of_ble_eq_true rfl, Nat.le_of_ble_eq_true rfl⟩) ⟨fun a U g mk q => by obtain ⟨q0, q1, qP, qK, qD, qX, qZ⟩ := q; exact ⟨q0, q1, qP, va_K.moved (u := U) (U := U.calling g mk a) (Vm.Alike.refl U.vm) qK, qD, xw_call qX, xz.moved (u := U) (U := U.calling g mk a) (Vm.Alike.refl U.vm) qZ⟩, va_recv hK hPc (ci := 3) (q0 := 0) rfl rfl, fun U hU hW => ⟨rfl, by rw [hU], by rw [hU]; exact hPc, va_K.moved hW.alike hK, hDc.weaken (fun _ _ _ _ => trivial), xw_warm hW hXw, by rw [hU]; exact xz.moved hW.alike (xz.narrow (xz.kept hXz hS.2.1) hFc)⟩⟩ rfl rfl hl.1 rfl (lv_room (Nat.le_of_ble_eq_true rfl)) dL_bar_4 ⟨Nat.le_of_ble_eq_true rfl, Nat.le_of_ble_eq_true rfl⟩) hS (fun q _ h => hFc q h) hFc (fun q _ h => hFc q h) (fun E9 ce9 q9 u9 t9 H1 locs ht9 hvm9 hpx9 hBX9 hz9 hk9 hS hce9 hcv9 hcl9 => ?_) (fun r9 u9 t9 H1 locs ht9 hvm9 hw9 hB9 hz9 hk9 hS => ?_)
  · obtain ⟨hcode, hP1, hK1, hD1⟩ := hBX9
    rw [ht9] at hP1
    obtain ⟨hP, hD⟩ := va_join (wr := [(a_p2, .inl (cJ, n_p2, .inr (.inl f_p2)))]) (w1 := [(a_p0, .inr (3, [.ref a_p0_form, .ref a_p0_code, .ref a_p0_given, .ref a_p0_made, .int i_p0_anyMade, .ref a_p0_seen, .int i_p0_seenCount, .ref a_p0_word, .ref a_p0_lost, .ref a_p0_told, .int i_p0_toldMended, .int i_p0_toldTurned, .int i_p0_latestMask])), (a_p0_made, .inl (cI, n_p0_made, .inl f_p0_made))]) hP hD [0, 1] [2] rfl rfl (by decide) (by decide) hk9 hFc hP1 hD1
    have hP := hP.sub (ws' := [(a_p0, .inr (3, [.ref a_p0_form, .ref a_p0_code, .ref a_p0_given, .ref a_p0_made, .int i_p0_anyMade, .ref a_p0_seen, .int i_p0_seenCount, .ref a_p0_word, .ref a_p0_lost, .ref a_p0_told, .int i_p0_toldMended, .int i_p0_toldTurned, .int i_p0_latestMask])), (a_p0_made, .inl (cI, n_p0_made, .inl f_p0_made)), (a_p2, .inl (cJ, n_p2, .inr (.inl f_p2)))]) [1, 2, 0] rfl
    have hD := hD.sub (ws' := [(a_p0, .inr (3, [.ref a_p0_form, .ref a_p0_code, .ref a_p0_given, .ref a_p0_made, .int i_p0_anyMade, .ref a_p0_seen, .int i_p0_seenCount, .ref a_p0_word, .ref a_p0_lost, .ref a_p0_told, .int i_p0_toldMended, .int i_p0_toldTurned, .int i_p0_latestMask])), (a_p0_made, .inl (cI, n_p0_made, .inl f_p0_made)), (a_p2, .inl (cJ, n_p2, .inr (.inl f_p2)))]) [1, 2, 0] (by decide) rfl
    obtain ⟨rfl, hc9⟩ := hcode
    have hc9 : v1 = 1 := hc9
    replace h := im_f (by rw [hc9]; decide) h
    refine wx_catch (E := "java/lang/ArrayIndexOutOfBoundsException") (name := "java/lang/ArrayIndexOutOfBoundsException") hown [] ⟨0, 9, 12, 21⟩ [] (htab.trans rfl) (fun z hz => by cases hz) (by decide) (by decide) (hts _ kl_L_bar_21) (va_Nw.use rfl (xw_c_AI hXw)) hce9 hcv9 hcl9 ?_
    refine lv_astore_n (lv' := [(3, .ref q9), (0, .ref a_p0), (1, .int x1), (2, .ref a_p2)]) hx hb dL_bar_12 rfl hl (by decide) rfl (fun ls hl => ?_)
    refine lv_iconst (v := (1 : Int32)) hx hb dL_bar_13 (by decide) ?_
    rw [eQ]
    refine W.widen (k := 1) (n := 6) (by omega) (by omega) ?_
    exact W.iret (v := (1 : Int32)) hx hb hr (fun t ht hW => ⟨⟨_, f_p2, rfl, Option.some.inj h, by rw [ht]; exact hP, va_K.moved hW.alike hK, hD⟩, hS.F ht⟩) hS.2.2 dL_bar_14
  · obtain ⟨hP1, hK1, hD1⟩ := hB9
    rw [ht9] at hP1
    obtain ⟨e0, e1⟩ := Prod.mk.inj hw9
    have e1 := e1.symm
    subst e0
    subst e1
    replace h := im_t rfl h
    obtain ⟨hP, hD⟩ := va_join (wr := [(a_p2, .inl (cJ, n_p2, .inr (.inl f_p2)))]) (w1 := [(a_p0, .inr (3, [.ref a_p0_form, .ref a_p0_code, .ref a_p0_given, .ref a_p0_made, .int i_p0_anyMade, .ref a_p0_seen, .int i_p0_seenCount, .ref a_p0_word, .ref a_p0_lost, .ref a_p0_told, .int i_p0_toldMended, .int i_p0_toldTurned, .int i_p0_latestMask])), (a_p0_made, .inl (cI, n_p0_made, .inl f_p0_made))]) hP hD [0, 1] [2] rfl rfl (by decide) (by decide) hk9 hFc hP1 hD1
    have hP := hP.sub (ws' := [(a_p0, .inr (3, [.ref a_p0_form, .ref a_p0_code, .ref a_p0_given, .ref a_p0_made, .int i_p0_anyMade, .ref a_p0_seen, .int i_p0_seenCount, .ref a_p0_word, .ref a_p0_lost, .ref a_p0_told, .int i_p0_toldMended, .int i_p0_toldTurned, .int i_p0_latestMask])), (a_p0_made, .inl (cI, n_p0_made, .inl f_p0_made)), (a_p2, .inl (cJ, n_p2, .inr (.inl f_p2)))]) [1, 2, 0] rfl
    have hD := hD.sub (ws' := [(a_p0, .inr (3, [.ref a_p0_form, .ref a_p0_code, .ref a_p0_given, .ref a_p0_made, .int i_p0_anyMade, .ref a_p0_seen, .int i_p0_seenCount, .ref a_p0_word, .ref a_p0_lost, .ref a_p0_told, .int i_p0_toldMended, .int i_p0_toldTurned, .int i_p0_latestMask])), (a_p0_made, .inl (cI, n_p0_made, .inl f_p0_made)), (a_p2, .inl (cJ, n_p2, .inr (.inl f_p2)))]) [1, 2, 0] (by decide) rfl
    refine lv_i2l hx hb dL_bar_7 rfl ?_
    refine lv_topl (fun v3 ev3 => ?_)
    replace h := im_lt_u h v3 ev3
    obtain ⟨q8, h⟩ := im_stL_u h
    refine va_last hx hb hK hP hD hS 2 1 rfl rfl q8 dL_bar_8 (fun H locs hP hD hS => ?_)
    obtain ⟨f4, ef4⟩ : ∃ g : Nat → Int64, g = vp_updL f_p2 (0 : Int32).toNatClampNeg v3 := ⟨_, rfl⟩
    replace h := h f4 ef4
    rw [← ef4] at hP hD
    have hP : va_P (dC, dI) vwCl [(a_p0, .inr (3, [.ref a_p0_form, .ref a_p0_code, .ref a_p0_given, .ref a_p0_made, .int i_p0_anyMade, .ref a_p0_seen, .int i_p0_seenCount, .ref a_p0_word, .ref a_p0_lost, .ref a_p0_told, .int i_p0_toldMended, .int i_p0_toldTurned, .int i_p0_latestMask])), (a_p0_made, .inl (cI, n_p0_made, .inl f_p0_made)), (a_p2, .inl (cJ, n_p2, .inr (.inl f4)))] H := hP
    have hD : va_D A [(a_p0, .inr (3, [.ref a_p0_form, .ref a_p0_code, .ref a_p0_given, .ref a_p0_made, .int i_p0_anyMade, .ref a_p0_seen, .int i_p0_seenCount, .ref a_p0_word, .ref a_p0_lost, .ref a_p0_told, .int i_p0_toldMended, .int i_p0_toldTurned, .int i_p0_latestMask])), (a_p0_made, .inl (cI, n_p0_made, .inl f_p0_made)), (a_p2, .inl (cJ, n_p2, .inr (.inl f4)))] := hD
    refine lv_goto (tgt := 15) hx hb dL_bar_9 (by decide) ?_
    refine lv_iconst (v := (0 : Int32)) hx hb dL_bar_15 (by decide) ?_
    rw [eQ]
    refine W.widen (k := 1) (n := 6) (by omega) (by omega) ?_
    exact W.iret (v := (0 : Int32)) hx hb hr (fun t ht hW => ⟨⟨_, f4, rfl, Option.some.inj h, by rw [ht]; exact hP, va_K.moved hW.alike hK, hD⟩, hS.F ht⟩) hS.2.2 dL_bar_16
def im_L_read (x1 : Int32) (i_p0_seenCount : Int32) (i_p0_form_highestBar : Int32) (n_p0_seen : Nat) (f_p0_seen : Nat → Int32) : Option (Int32 × Int32 × (Nat → Int32)) := im_b3 (im_X4_read x1 i_p0_seenCount i_p0_form_highestBar n_p0_seen f_p0_seen) (fun v1 v2 f3 => if v1 = 0 then (some ((0 : Int32), v2, f3)) else if v1 = 1 then (some ((1 : Int32), i_p0_seenCount, f_p0_seen)) else (some ((2 : Int32), i_p0_seenCount, f_p0_seen)))
abbrev rm_L_read : Room := { frames := 8, cells := 1, slots := 6, locals := 131 }
theorem kl_L_read_15 : Cond.classLink RL 15 "java/lang/IllegalArgumentException" ∈ wsL_read := by decide +kernel
theorem kl_L_read_27 : Cond.classLink RL 27 "java/lang/IllegalStateException" ∈ wsL_read := by decide +kernel
theorem cw_L_read : Cond.codeWith yL_read cL_read 3 (some .int) [(0, 5, 8, 15), (0, 5, 11, 27)] ∈ wsL_read := by decide +kernel
set_option maxHeartbeats 4000000 in
set_option maxRecDepth 100000 in
theorem c_L_read (l : Launch) (hl9 : l.stackTraces = false) (dC : Nat → ClassId) (dI : Nat → Nat → Nat) (cI cJ cZ : ClassId) (sz : Nat) (a_p0 a_p0_form a_p0_code a_p0_given a_p0_made a_p0_seen a_p0_word a_p0_lost a_p0_told a_p0_form_widths : Nat) (i_p0_anyMade i_p0_seenCount i_p0_toldMended i_p0_toldTurned i_p0_latestMask i_p0_form_kind i_p0_form_checks i_p0_form_symbols i_p0_form_rowLength i_p0_form_highestBar i_p0_form_fourHeights i_p0_form_barBits i_p0_form_symbolBars i_p0_form_checkKey : Int32) (n_p0_seen : Nat) (f_p0_seen : Nat → Int32) (x1 : Int32) {r : Int32 × Int32 × (Nat → Int32)} (h : im_L_read x1 i_p0_seenCount i_p0_form_highestBar n_p0_seen f_p0_seen = some r) : Met l yL_read wsL_read rm_L_read (va_Pc [.ref a_p0, .int x1] (fun U => U.heap.size = sz ∧ va_P (dC, dI) vwCl [(a_p0, .inr (3, [.ref a_p0_form, .ref a_p0_code, .ref a_p0_given, .ref a_p0_made, .int i_p0_anyMade, .ref a_p0_seen, .int i_p0_seenCount, .ref a_p0_word, .ref a_p0_lost, .ref a_p0_told, .int i_p0_toldMended, .int i_p0_toldTurned, .int i_p0_latestMask])), (a_p0_form, .inr (2, [.int i_p0_form_kind, .ref a_p0_form_widths, .int i_p0_form_checks, .int i_p0_form_symbols, .int i_p0_form_rowLength, .int i_p0_form_highestBar, .int i_p0_form_fourHeights, .int i_p0_form_barBits, .int i_p0_form_symbolBars, .int i_p0_form_checkKey])), (a_p0_seen, .inl (cI, n_p0_seen, .inl f_p0_seen))] U.heap ∧ va_K (dC, dI) vwCl [(cI, .int), (cJ, .long), (cZ, .boolean)] U ∧ va_D (fun _ => True) [(a_p0, .inr (3, [.ref a_p0_form, .ref a_p0_code, .ref a_p0_given, .ref a_p0_made, .int i_p0_anyMade, .ref a_p0_seen, .int i_p0_seenCount, .ref a_p0_word, .ref a_p0_lost, .ref a_p0_told, .int i_p0_toldMended, .int i_p0_toldTurned, .int i_p0_latestMask])), (a_p0_form, .inr (2, [.int i_p0_form_kind, .ref a_p0_form_widths, .int i_p0_form_checks, .int i_p0_form_symbols, .int i_p0_form_rowLength, .int i_p0_form_highestBar, .int i_p0_form_fourHeights, .int i_p0_form_barBits, .int i_p0_form_symbolBars, .int i_p0_form_checkKey])), (a_p0_seen, .inl (cI, n_p0_seen, .inl f_p0_seen))] ∧ xw U ∧ xz (va_A [(a_p0, .inr (3, [.ref a_p0_form, .ref a_p0_code, .ref a_p0_given, .ref a_p0_made, .int i_p0_anyMade, .ref a_p0_seen, .int i_p0_seenCount, .ref a_p0_word, .ref a_p0_lost, .ref a_p0_told, .int i_p0_toldMended, .int i_p0_toldTurned, .int i_p0_latestMask])), (a_p0_form, .inr (2, [.int i_p0_form_kind, .ref a_p0_form_widths, .int i_p0_form_checks, .int i_p0_form_symbols, .int i_p0_form_rowLength, .int i_p0_form_highestBar, .int i_p0_form_fourHeights, .int i_p0_form_barBits, .int i_p0_form_symbolBars, .int i_p0_form_checkKey])), (a_p0_seen, .inl (cI, n_p0_seen, .inl f_p0_seen))] sz) U U.heap)) (va_Qi (S := Int32 × (Nat → Int32)) (fun r9 u9 => (r9, u9) = r) (fun u9 t9 => va_P (dC, dI) vwCl [(a_p0, .inr (3, [.ref a_p0_form, .ref a_p0_code, .ref a_p0_given, .ref a_p0_made, .int i_p0_anyMade, .ref a_p0_seen, .int (u9.1), .ref a_p0_word, .ref a_p0_lost, .ref a_p0_told, .int i_p0_toldMended, .int i_p0_toldTurned, .int i_p0_latestMask])), (a_p0_form, .inr (2, [.int i_p0_form_kind, .ref a_p0_form_widths, .int i_p0_form_checks, .int i_p0_form_symbols, .int i_p0_form_rowLength, .int i_p0_form_highestBar, .int i_p0_form_fourHeights, .int i_p0_form_barBits, .int i_p0_form_symbolBars, .int i_p0_form_checkKey])), (a_p0_seen, .inl (cI, n_p0_seen, .inl (u9.2)))] t9.heap ∧ va_K (dC, dI) vwCl [(cI, .int), (cJ, .long), (cZ, .boolean)] t9 ∧ va_D (va_A [(a_p0, .inr (3, [.ref a_p0_form, .ref a_p0_code, .ref a_p0_given, .ref a_p0_made, .int i_p0_anyMade, .ref a_p0_seen, .int i_p0_seenCount, .ref a_p0_word, .ref a_p0_lost, .ref a_p0_told, .int i_p0_toldMended, .int i_p0_toldTurned, .int i_p0_latestMask])), (a_p0_form, .inr (2, [.int i_p0_form_kind, .ref a_p0_form_widths, .int i_p0_form_checks, .int i_p0_form_symbols, .int i_p0_form_rowLength, .int i_p0_form_highestBar, .int i_p0_form_fourHeights, .int i_p0_form_barBits, .int i_p0_form_symbolBars, .int i_p0_form_checkKey])), (a_p0_seen, .inl (cI, n_p0_seen, .inl f_p0_seen))] sz) [(a_p0, .inr (3, [.ref a_p0_form, .ref a_p0_code, .ref a_p0_given, .ref a_p0_made, .int i_p0_anyMade, .ref a_p0_seen, .int (u9.1), .ref a_p0_word, .ref a_p0_lost, .ref a_p0_told, .int i_p0_toldMended, .int i_p0_toldTurned, .int i_p0_latestMask])), (a_p0_form, .inr (2, [.int i_p0_form_kind, .ref a_p0_form_widths, .int i_p0_form_checks, .int i_p0_form_symbols, .int i_p0_form_rowLength, .int i_p0_form_highestBar, .int i_p0_form_fourHeights, .int i_p0_form_barBits, .int i_p0_form_symbolBars, .int i_p0_form_checkKey])), (a_p0_seen, .inl (cI, n_p0_seen, .inl (u9.2)))]) (va_A [(a_p0, .inr (3, [.ref a_p0_form, .ref a_p0_code, .ref a_p0_given, .ref a_p0_made, .int i_p0_anyMade, .ref a_p0_seen, .int i_p0_seenCount, .ref a_p0_word, .ref a_p0_lost, .ref a_p0_told, .int i_p0_toldMended, .int i_p0_toldTurned, .int i_p0_latestMask])), (a_p0_form, .inr (2, [.int i_p0_form_kind, .ref a_p0_form_widths, .int i_p0_form_checks, .int i_p0_form_symbols, .int i_p0_form_rowLength, .int i_p0_form_highestBar, .int i_p0_form_fourHeights, .int i_p0_form_barBits, .int i_p0_form_symbolBars, .int i_p0_form_checkKey])), (a_p0_seen, .inl (cI, n_p0_seen, .inl f_p0_seen))] sz)) 1 6 (va_A [(a_p0, .inr (3, [.ref a_p0_form, .ref a_p0_code, .ref a_p0_given, .ref a_p0_made, .int i_p0_anyMade, .ref a_p0_seen, .int i_p0_seenCount, .ref a_p0_word, .ref a_p0_lost, .ref a_p0_told, .int i_p0_toldMended, .int i_p0_toldTurned, .int i_p0_latestMask])), (a_p0_form, .inr (2, [.int i_p0_form_kind, .ref a_p0_form_widths, .int i_p0_form_checks, .int i_p0_form_symbols, .int i_p0_form_rowLength, .int i_p0_form_highestBar, .int i_p0_form_fourHeights, .int i_p0_form_barBits, .int i_p0_form_symbolBars, .int i_p0_form_checkKey])), (a_p0_seen, .inl (cI, n_p0_seen, .inl f_p0_seen))] sz) := by
  refine va_MetW (cc := cL_read) (maxL := 3) (ret := (some .int)) (hh := [(0, 5, 8, 15), (0, 5, 11, 27)]) (by decide) rfl ?_
  intro p e s m args below meth c s₁ B hml hv
  obtain ⟨eargs, hsz, hP, hK, hD0, hXw, hXz⟩ := hv
  have hx := B.exec
  have hb := B.bytes
  have hr := B.returns
  have hts := atoms_spec (ws := wsL_read) B.pre
  have hown : s.vm.findClass RL = some m.cls := findClass_of_methodNamed B.named
  have hlocks := B.notSynchronized
  have htab := vx_table (x := yL_read) B (hts _ cw_L_read)
  refine im_Q (fun Q eQ => ?_)
  subst hsz
  have hD := hD0.self (sz := s.heap.size)
  generalize hAe : va_A [(a_p0, .inr (3, [.ref a_p0_form, .ref a_p0_code, .ref a_p0_given, .ref a_p0_made, .int i_p0_anyMade, .ref a_p0_seen, .int i_p0_seenCount, .ref a_p0_word, .ref a_p0_lost, .ref a_p0_told, .int i_p0_toldMended, .int i_p0_toldTurned, .int i_p0_latestMask])), (a_p0_form, .inr (2, [.int i_p0_form_kind, .ref a_p0_form_widths, .int i_p0_form_checks, .int i_p0_form_symbols, .int i_p0_form_rowLength, .int i_p0_form_highestBar, .int i_p0_form_fourHeights, .int i_p0_form_barBits, .int i_p0_form_symbolBars, .int i_p0_form_checkKey])), (a_p0_seen, .inl (cI, n_p0_seen, .inl f_p0_seen))] s.heap.size = A at hD eQ hXz
  have hA : ∀ q : Nat, s.heap.size ≤ q → A q := fun q h => by rw [← hAe]; exact Or.inr h
  have hS : va_S A s.heap s.heap [] := va_S.rf
  have hl := lv_entry [.ref a_p0, .int x1] (n := 3) (Nat.le_of_ble_eq_true rfl)
  rw [show entryFrame m args 3 = entryFrame m ([.ref a_p0, .int x1] : List Value).toArray 3 by rw [eargs], lg_entry_eq]
  generalize (lg_sl ([.ref a_p0, .int x1]) ++ List.replicate (3 - (lg_sl ([.ref a_p0, .int x1])).length) Slot.unset).toArray = ls at hl ⊢
  have hl : lv_has ls 3 [(0, .ref a_p0), (1, .int x1)] := hl
  rw [im_L_read] at h
  refine lv_aload_n hx hb dL_read_0 rfl (lv_at hl 0 rfl) ?_
  refine lv_iload_n hx hb dL_read_1 rfl (lv_at hl 1 rfl) ?_
  obtain ⟨v1, v2, f3, y2, h⟩ := im_b3_u h
  have hPc := hP.sub (ws' := [(a_p0, .inr (3, [.ref a_p0_form, .ref a_p0_code, .ref a_p0_given, .ref a_p0_made, .int i_p0_anyMade, .ref a_p0_seen, .int i_p0_seenCount, .ref a_p0_word, .ref a_p0_lost, .ref a_p0_told, .int i_p0_toldMended, .int i_p0_toldTurned, .int i_p0_latestMask])), (a_p0_form, .inr (2, [.int i_p0_form_kind, .ref a_p0_form_widths, .int i_p0_form_checks, .int i_p0_form_symbols, .int i_p0_form_rowLength, .int i_p0_form_highestBar, .int i_p0_form_fourHeights, .int i_p0_form_barBits, .int i_p0_form_symbolBars, .int i_p0_form_checkKey])), (a_p0_seen, .inl (cI, n_p0_seen, .inl f_p0_seen))]) [0, 1, 2] rfl
  have hDc := hD.sub (ws' := [(a_p0, .inr (3, [.ref a_p0_form, .ref a_p0_code, .ref a_p0_given, .ref a_p0_made, .int i_p0_anyMade, .ref a_p0_seen, .int i_p0_seenCount, .ref a_p0_word, .ref a_p0_lost, .ref a_p0_told, .int i_p0_toldMended, .int i_p0_toldTurned, .int i_p0_latestMask])), (a_p0_form, .inr (2, [.int i_p0_form_kind, .ref a_p0_form_widths, .int i_p0_form_checks, .int i_p0_form_symbols, .int i_p0_form_rowLength, .int i_p0_form_highestBar, .int i_p0_form_fourHeights, .int i_p0_form_barBits, .int i_p0_form_symbolBars, .int i_p0_form_checkKey])), (a_p0_seen, .inl (cI, n_p0_seen, .inl f_p0_seen))]) [0, 1, 2] (by decide) rfl
  have hFc := va_free (wc := [(a_p0, .inr (3, [.ref a_p0_form, .ref a_p0_code, .ref a_p0_given, .ref a_p0_made, .int i_p0_anyMade, .ref a_p0_seen, .int i_p0_seenCount, .ref a_p0_word, .ref a_p0_lost, .ref a_p0_told, .int i_p0_toldMended, .int i_p0_toldTurned, .int i_p0_latestMask])), (a_p0_form, .inr (2, [.int i_p0_form_kind, .ref a_p0_form_widths, .int i_p0_form_checks, .int i_p0_form_symbols, .int i_p0_form_rowLength, .int i_p0_form_highestBar, .int i_p0_form_fourHeights, .int i_p0_form_barBits, .int i_p0_form_symbolBars, .int i_p0_form_checkKey])), (a_p0_seen, .inl (cI, n_p0_seen, .inl f_p0_seen))]) hD hS hA [0, 1, 2] rfl
  refine vx_callv (vx_runV (As := [.int x1]) (rest := []) ⟨hx, hb, hml, hown, hts⟩ (c_X4_read l hl9 dC dI cI cJ cZ s.heap.size a_p0 a_p0_form a_p0_code a_p0_given a_p0_made a_p0_seen a_p0_word a_p0_lost a_p0_told a_p0_form_widths i_p0_anyMade i_p0_seenCount i_p0_toldMended i_p0_toldTurned i_p0_latestMask i_p0_form_kind i_p0_form_checks i_p0_form_symbols i_p0_form_rowLength i_p0_form_highestBar i_p0_form_fourHeights i_p0_form_barBits i_p0_form_symbolBars i_p0_form_checkKey n_p0_seen f_p0_seen x1 y2) (cwV 1 hts gL_read_X4_read rfl rfl rfl (by decide +kernel) ⟨Nat.le_of_ble_eq_true rfl, Nat.le_of_ble_eq_true rfl⟩) ⟨fun a U g mk q => by obtain ⟨q0, q1, qP, qK, qD, qX, qZ⟩ := q; exact ⟨q0, q1, qP, va_K.moved (u := U) (U := U.calling g mk a) (Vm.Alike.refl U.vm) qK, qD, xw_call qX, xz.moved (u := U) (U := U.calling g mk a) (Vm.Alike.refl U.vm) qZ⟩, va_recv hK hPc (ci := 3) (q0 := 0) rfl rfl, fun U hU hW => ⟨rfl, by rw [hU], by rw [hU]; exact hPc, va_K.moved hW.alike hK, hDc.weaken (fun _ _ _ _ => trivial), xw_warm hW hXw, by rw [hU]; exact xz.moved hW.alike (xz.narrow (xz.kept hXz hS.2.1) hFc)⟩⟩ rfl rfl hl.1 rfl (lv_room (Nat.le_of_ble_eq_true rfl)) dL_read_2 ⟨Nat.le_of_ble_eq_true rfl, Nat.le_of_ble_eq_true rfl⟩) hS (fun q _ h => hFc q h) hFc (fun q _ h => hFc q h) (fun E9 ce9 q9 u9 t9 H1 locs ht9 hvm9 hpx9 hBX9 hz9 hk9 hS hce9 hcv9 hcl9 => ?_) (fun u9 t9 H1 locs ht9 hvm9 hw9 hB9 hz9 hk9 hS => ?_)
  · obtain ⟨hcode, hP1, hK1, hD1⟩ := hBX9
    rw [ht9] at hP1
    obtain ⟨hP, hD⟩ := va_join (wr := []) (w1 := [(a_p0, .inr (3, [.ref a_p0_form, .ref a_p0_code, .ref a_p0_given, .ref a_p0_made, .int i_p0_anyMade, .ref a_p0_seen, .int i_p0_seenCount, .ref a_p0_word, .ref a_p0_lost, .ref a_p0_told, .int i_p0_toldMended, .int i_p0_toldTurned, .int i_p0_latestMask])), (a_p0_form, .inr (2, [.int i_p0_form_kind, .ref a_p0_form_widths, .int i_p0_form_checks, .int i_p0_form_symbols, .int i_p0_form_rowLength, .int i_p0_form_highestBar, .int i_p0_form_fourHeights, .int i_p0_form_barBits, .int i_p0_form_symbolBars, .int i_p0_form_checkKey])), (a_p0_seen, .inl (cI, n_p0_seen, .inl f_p0_seen))]) hP hD [0, 1, 2] [] rfl rfl (by decide) (by decide) hk9 hFc hP1 hD1
    have hP := hP.sub (ws' := [(a_p0, .inr (3, [.ref a_p0_form, .ref a_p0_code, .ref a_p0_given, .ref a_p0_made, .int i_p0_anyMade, .ref a_p0_seen, .int i_p0_seenCount, .ref a_p0_word, .ref a_p0_lost, .ref a_p0_told, .int i_p0_toldMended, .int i_p0_toldTurned, .int i_p0_latestMask])), (a_p0_form, .inr (2, [.int i_p0_form_kind, .ref a_p0_form_widths, .int i_p0_form_checks, .int i_p0_form_symbols, .int i_p0_form_rowLength, .int i_p0_form_highestBar, .int i_p0_form_fourHeights, .int i_p0_form_barBits, .int i_p0_form_symbolBars, .int i_p0_form_checkKey])), (a_p0_seen, .inl (cI, n_p0_seen, .inl f_p0_seen))]) [0, 1, 2] rfl
    have hD := hD.sub (ws' := [(a_p0, .inr (3, [.ref a_p0_form, .ref a_p0_code, .ref a_p0_given, .ref a_p0_made, .int i_p0_anyMade, .ref a_p0_seen, .int i_p0_seenCount, .ref a_p0_word, .ref a_p0_lost, .ref a_p0_told, .int i_p0_toldMended, .int i_p0_toldTurned, .int i_p0_latestMask])), (a_p0_form, .inr (2, [.int i_p0_form_kind, .ref a_p0_form_widths, .int i_p0_form_checks, .int i_p0_form_symbols, .int i_p0_form_rowLength, .int i_p0_form_highestBar, .int i_p0_form_fourHeights, .int i_p0_form_barBits, .int i_p0_form_symbolBars, .int i_p0_form_checkKey])), (a_p0_seen, .inl (cI, n_p0_seen, .inl f_p0_seen))]) [0, 1, 2] (by decide) rfl
    rcases hcode with ⟨rfl, hc9⟩ | ⟨rfl, hc9⟩
    · have hc9 : v1 = 1 := hc9
      replace h := im_f (by rw [hc9]; decide) h
      replace h := im_t hc9 h
      refine wx_catch (E := "java/lang/IllegalArgumentException") (name := "java/lang/IllegalArgumentException") hown [] ⟨0, 5, 8, 15⟩ [⟨0, 5, 11, 27⟩] (htab.trans rfl) (fun z hz => by cases hz) (by decide) (by decide) (hts _ kl_L_read_15) (va_Nw.use rfl (xw_c_IA hXw)) hce9 hcv9 hcl9 ?_
      refine lv_astore_n (lv' := [(2, .ref q9), (0, .ref a_p0), (1, .int x1)]) hx hb dL_read_8 rfl hl (by decide) rfl (fun ls hl => ?_)
      refine lv_iconst (v := (1 : Int32)) hx hb dL_read_9 (by decide) ?_
      rw [eQ]
      refine W.widen (k := 1) (n := 6) (by omega) (by omega) ?_
      exact W.iret (v := (1 : Int32)) hx hb hr (fun t ht hW => ⟨⟨_, (i_p0_seenCount, f_p0_seen), rfl, Option.some.inj h, by rw [ht]; exact hP, va_K.moved hW.alike hK, hD⟩, hS.F ht⟩) hS.2.2 dL_read_10
    · have hc9 : v1 = 2 := hc9
      replace h := im_f (by rw [hc9]; decide) h
      replace h := im_f (by rw [hc9]; decide) h
      refine wx_catch (E := "java/lang/IllegalStateException") (name := "java/lang/IllegalStateException") hown [⟨0, 5, 8, 15⟩] ⟨0, 5, 11, 27⟩ [] (htab.trans rfl) (fun z hz => by rw [List.mem_singleton.mp hz]; exact Or.inr ⟨by decide, "java/lang/IllegalArgumentException", hts _ kl_L_read_15, xw_n_IS hXw⟩) (by decide) (by decide) (hts _ kl_L_read_27) (va_Nw.use rfl (xw_c_IS hXw)) hce9 hcv9 hcl9 ?_
      refine lv_astore_n (lv' := [(2, .ref q9), (0, .ref a_p0), (1, .int x1)]) hx hb dL_read_11 rfl hl (by decide) rfl (fun ls hl => ?_)
      refine lv_iconst (v := (2 : Int32)) hx hb dL_read_12 (by decide) ?_
      rw [eQ]
      refine W.widen (k := 1) (n := 6) (by omega) (by omega) ?_
      exact W.iret (v := (2 : Int32)) hx hb hr (fun t ht hW => ⟨⟨_, (i_p0_seenCount, f_p0_seen), rfl, Option.some.inj h, by rw [ht]; exact hP, va_K.moved hW.alike hK, hD⟩, hS.F ht⟩) hS.2.2 dL_read_13
  · obtain ⟨hP1, hK1, hD1⟩ := hB9
    rw [ht9] at hP1
    obtain ⟨e0, e1⟩ := Prod.mk.inj hw9
    have e1 := e1.symm
    subst e0
    subst e1
    replace h := im_t rfl h
    obtain ⟨hP, hD⟩ := va_join (wr := []) (w1 := [(a_p0, .inr (3, [.ref a_p0_form, .ref a_p0_code, .ref a_p0_given, .ref a_p0_made, .int i_p0_anyMade, .ref a_p0_seen, .int v2, .ref a_p0_word, .ref a_p0_lost, .ref a_p0_told, .int i_p0_toldMended, .int i_p0_toldTurned, .int i_p0_latestMask])), (a_p0_form, .inr (2, [.int i_p0_form_kind, .ref a_p0_form_widths, .int i_p0_form_checks, .int i_p0_form_symbols, .int i_p0_form_rowLength, .int i_p0_form_highestBar, .int i_p0_form_fourHeights, .int i_p0_form_barBits, .int i_p0_form_symbolBars, .int i_p0_form_checkKey])), (a_p0_seen, .inl (cI, n_p0_seen, .inl f3))]) hP hD [0, 1, 2] [] rfl rfl (by decide) (by decide) hk9 hFc hP1 hD1
    have hP := hP.sub (ws' := [(a_p0, .inr (3, [.ref a_p0_form, .ref a_p0_code, .ref a_p0_given, .ref a_p0_made, .int i_p0_anyMade, .ref a_p0_seen, .int v2, .ref a_p0_word, .ref a_p0_lost, .ref a_p0_told, .int i_p0_toldMended, .int i_p0_toldTurned, .int i_p0_latestMask])), (a_p0_form, .inr (2, [.int i_p0_form_kind, .ref a_p0_form_widths, .int i_p0_form_checks, .int i_p0_form_symbols, .int i_p0_form_rowLength, .int i_p0_form_highestBar, .int i_p0_form_fourHeights, .int i_p0_form_barBits, .int i_p0_form_symbolBars, .int i_p0_form_checkKey])), (a_p0_seen, .inl (cI, n_p0_seen, .inl f3))]) [0, 1, 2] rfl
    have hD := hD.sub (ws' := [(a_p0, .inr (3, [.ref a_p0_form, .ref a_p0_code, .ref a_p0_given, .ref a_p0_made, .int i_p0_anyMade, .ref a_p0_seen, .int v2, .ref a_p0_word, .ref a_p0_lost, .ref a_p0_told, .int i_p0_toldMended, .int i_p0_toldTurned, .int i_p0_latestMask])), (a_p0_form, .inr (2, [.int i_p0_form_kind, .ref a_p0_form_widths, .int i_p0_form_checks, .int i_p0_form_symbols, .int i_p0_form_rowLength, .int i_p0_form_highestBar, .int i_p0_form_fourHeights, .int i_p0_form_barBits, .int i_p0_form_symbolBars, .int i_p0_form_checkKey])), (a_p0_seen, .inl (cI, n_p0_seen, .inl f3))]) [0, 1, 2] (by decide) rfl
    refine lv_goto (tgt := 14) hx hb dL_read_5 (by decide) ?_
    refine lv_iconst (v := (0 : Int32)) hx hb dL_read_14 (by decide) ?_
    rw [eQ]
    refine W.widen (k := 1) (n := 6) (by omega) (by omega) ?_
    exact W.iret (v := (0 : Int32)) hx hb hr (fun t ht hW => ⟨⟨_, (v2, f3), rfl, Option.some.inj h, by rw [ht]; exact hP, va_K.moved hW.alike hK, hD⟩, hS.F ht⟩) hS.2.2 dL_read_15
def im_L_erased (i_p0_seenCount : Int32) (n_p0_seen : Nat) (f_p0_seen : Nat → Int32) : Option (Int32 × Int32 × (Nat → Int32)) := im_b3 (im_X4_erased i_p0_seenCount n_p0_seen f_p0_seen) (fun v1 v2 f3 => if v1 = 0 then (some ((0 : Int32), v2, f3)) else (some ((1 : Int32), i_p0_seenCount, f_p0_seen)))
abbrev rm_L_erased : Room := { frames := 8, cells := 1, slots := 6, locals := 130 }
theorem kl_L_erased_27 : Cond.classLink RL 27 "java/lang/IllegalStateException" ∈ wsL_erased := by decide +kernel
theorem cw_L_erased : Cond.codeWith yL_erased cL_erased 2 (some .int) [(0, 4, 7, 27)] ∈ wsL_erased := by decide +kernel
set_option maxHeartbeats 4000000 in
set_option maxRecDepth 100000 in
theorem c_L_erased (l : Launch) (hl9 : l.stackTraces = false) (dC : Nat → ClassId) (dI : Nat → Nat → Nat) (cI cJ cZ : ClassId) (sz : Nat) (a_p0 a_p0_form a_p0_code a_p0_given a_p0_made a_p0_seen a_p0_word a_p0_lost a_p0_told : Nat) (i_p0_anyMade i_p0_seenCount i_p0_toldMended i_p0_toldTurned i_p0_latestMask : Int32) (n_p0_seen : Nat) (f_p0_seen : Nat → Int32) {r : Int32 × Int32 × (Nat → Int32)} (h : im_L_erased i_p0_seenCount n_p0_seen f_p0_seen = some r) : Met l yL_erased wsL_erased rm_L_erased (va_Pc [.ref a_p0] (fun U => U.heap.size = sz ∧ va_P (dC, dI) vwCl [(a_p0, .inr (3, [.ref a_p0_form, .ref a_p0_code, .ref a_p0_given, .ref a_p0_made, .int i_p0_anyMade, .ref a_p0_seen, .int i_p0_seenCount, .ref a_p0_word, .ref a_p0_lost, .ref a_p0_told, .int i_p0_toldMended, .int i_p0_toldTurned, .int i_p0_latestMask])), (a_p0_seen, .inl (cI, n_p0_seen, .inl f_p0_seen))] U.heap ∧ va_K (dC, dI) vwCl [(cI, .int), (cJ, .long), (cZ, .boolean)] U ∧ va_D (fun _ => True) [(a_p0, .inr (3, [.ref a_p0_form, .ref a_p0_code, .ref a_p0_given, .ref a_p0_made, .int i_p0_anyMade, .ref a_p0_seen, .int i_p0_seenCount, .ref a_p0_word, .ref a_p0_lost, .ref a_p0_told, .int i_p0_toldMended, .int i_p0_toldTurned, .int i_p0_latestMask])), (a_p0_seen, .inl (cI, n_p0_seen, .inl f_p0_seen))] ∧ xw U ∧ xz (va_A [(a_p0, .inr (3, [.ref a_p0_form, .ref a_p0_code, .ref a_p0_given, .ref a_p0_made, .int i_p0_anyMade, .ref a_p0_seen, .int i_p0_seenCount, .ref a_p0_word, .ref a_p0_lost, .ref a_p0_told, .int i_p0_toldMended, .int i_p0_toldTurned, .int i_p0_latestMask])), (a_p0_seen, .inl (cI, n_p0_seen, .inl f_p0_seen))] sz) U U.heap)) (va_Qi (S := Int32 × (Nat → Int32)) (fun r9 u9 => (r9, u9) = r) (fun u9 t9 => va_P (dC, dI) vwCl [(a_p0, .inr (3, [.ref a_p0_form, .ref a_p0_code, .ref a_p0_given, .ref a_p0_made, .int i_p0_anyMade, .ref a_p0_seen, .int (u9.1), .ref a_p0_word, .ref a_p0_lost, .ref a_p0_told, .int i_p0_toldMended, .int i_p0_toldTurned, .int i_p0_latestMask])), (a_p0_seen, .inl (cI, n_p0_seen, .inl (u9.2)))] t9.heap ∧ va_K (dC, dI) vwCl [(cI, .int), (cJ, .long), (cZ, .boolean)] t9 ∧ va_D (va_A [(a_p0, .inr (3, [.ref a_p0_form, .ref a_p0_code, .ref a_p0_given, .ref a_p0_made, .int i_p0_anyMade, .ref a_p0_seen, .int i_p0_seenCount, .ref a_p0_word, .ref a_p0_lost, .ref a_p0_told, .int i_p0_toldMended, .int i_p0_toldTurned, .int i_p0_latestMask])), (a_p0_seen, .inl (cI, n_p0_seen, .inl f_p0_seen))] sz) [(a_p0, .inr (3, [.ref a_p0_form, .ref a_p0_code, .ref a_p0_given, .ref a_p0_made, .int i_p0_anyMade, .ref a_p0_seen, .int (u9.1), .ref a_p0_word, .ref a_p0_lost, .ref a_p0_told, .int i_p0_toldMended, .int i_p0_toldTurned, .int i_p0_latestMask])), (a_p0_seen, .inl (cI, n_p0_seen, .inl (u9.2)))]) (va_A [(a_p0, .inr (3, [.ref a_p0_form, .ref a_p0_code, .ref a_p0_given, .ref a_p0_made, .int i_p0_anyMade, .ref a_p0_seen, .int i_p0_seenCount, .ref a_p0_word, .ref a_p0_lost, .ref a_p0_told, .int i_p0_toldMended, .int i_p0_toldTurned, .int i_p0_latestMask])), (a_p0_seen, .inl (cI, n_p0_seen, .inl f_p0_seen))] sz)) 1 6 (va_A [(a_p0, .inr (3, [.ref a_p0_form, .ref a_p0_code, .ref a_p0_given, .ref a_p0_made, .int i_p0_anyMade, .ref a_p0_seen, .int i_p0_seenCount, .ref a_p0_word, .ref a_p0_lost, .ref a_p0_told, .int i_p0_toldMended, .int i_p0_toldTurned, .int i_p0_latestMask])), (a_p0_seen, .inl (cI, n_p0_seen, .inl f_p0_seen))] sz) := by
  refine va_MetW (cc := cL_erased) (maxL := 2) (ret := (some .int)) (hh := [(0, 4, 7, 27)]) (by decide) rfl ?_
  intro p e s m args below meth c s₁ B hml hv
  obtain ⟨eargs, hsz, hP, hK, hD0, hXw, hXz⟩ := hv
  have hx := B.exec
  have hb := B.bytes
  have hr := B.returns
  have hts := atoms_spec (ws := wsL_erased) B.pre
  have hown : s.vm.findClass RL = some m.cls := findClass_of_methodNamed B.named
  have hlocks := B.notSynchronized
  have htab := vx_table (x := yL_erased) B (hts _ cw_L_erased)
  refine im_Q (fun Q eQ => ?_)
  subst hsz
  have hD := hD0.self (sz := s.heap.size)
  generalize hAe : va_A [(a_p0, .inr (3, [.ref a_p0_form, .ref a_p0_code, .ref a_p0_given, .ref a_p0_made, .int i_p0_anyMade, .ref a_p0_seen, .int i_p0_seenCount, .ref a_p0_word, .ref a_p0_lost, .ref a_p0_told, .int i_p0_toldMended, .int i_p0_toldTurned, .int i_p0_latestMask])), (a_p0_seen, .inl (cI, n_p0_seen, .inl f_p0_seen))] s.heap.size = A at hD eQ hXz
  have hA : ∀ q : Nat, s.heap.size ≤ q → A q := fun q h => by rw [← hAe]; exact Or.inr h
  have hS : va_S A s.heap s.heap [] := va_S.rf
  have hl := lv_entry [.ref a_p0] (n := 2) (Nat.le_of_ble_eq_true rfl)
  rw [show entryFrame m args 2 = entryFrame m ([.ref a_p0] : List Value).toArray 2 by rw [eargs], lg_entry_eq]
  generalize (lg_sl ([.ref a_p0]) ++ List.replicate (2 - (lg_sl ([.ref a_p0])).length) Slot.unset).toArray = ls at hl ⊢
  have hl : lv_has ls 2 [(0, .ref a_p0)] := hl
  rw [im_L_erased] at h
  refine lv_aload_n hx hb dL_erased_0 rfl (lv_at hl 0 rfl) ?_
  obtain ⟨v1, v2, f3, y1, h⟩ := im_b3_u h
  have hPc := hP.sub (ws' := [(a_p0, .inr (3, [.ref a_p0_form, .ref a_p0_code, .ref a_p0_given, .ref a_p0_made, .int i_p0_anyMade, .ref a_p0_seen, .int i_p0_seenCount, .ref a_p0_word, .ref a_p0_lost, .ref a_p0_told, .int i_p0_toldMended, .int i_p0_toldTurned, .int i_p0_latestMask])), (a_p0_seen, .inl (cI, n_p0_seen, .inl f_p0_seen))]) [0, 1] rfl
  have hDc := hD.sub (ws' := [(a_p0, .inr (3, [.ref a_p0_form, .ref a_p0_code, .ref a_p0_given, .ref a_p0_made, .int i_p0_anyMade, .ref a_p0_seen, .int i_p0_seenCount, .ref a_p0_word, .ref a_p0_lost, .ref a_p0_told, .int i_p0_toldMended, .int i_p0_toldTurned, .int i_p0_latestMask])), (a_p0_seen, .inl (cI, n_p0_seen, .inl f_p0_seen))]) [0, 1] (by decide) rfl
  have hFc := va_free (wc := [(a_p0, .inr (3, [.ref a_p0_form, .ref a_p0_code, .ref a_p0_given, .ref a_p0_made, .int i_p0_anyMade, .ref a_p0_seen, .int i_p0_seenCount, .ref a_p0_word, .ref a_p0_lost, .ref a_p0_told, .int i_p0_toldMended, .int i_p0_toldTurned, .int i_p0_latestMask])), (a_p0_seen, .inl (cI, n_p0_seen, .inl f_p0_seen))]) hD hS hA [0, 1] rfl
  refine vx_callv (vx_runV (As := []) (rest := []) ⟨hx, hb, hml, hown, hts⟩ (c_X4_erased l hl9 dC dI cI cJ cZ s.heap.size a_p0 a_p0_form a_p0_code a_p0_given a_p0_made a_p0_seen a_p0_word a_p0_lost a_p0_told i_p0_anyMade i_p0_seenCount i_p0_toldMended i_p0_toldTurned i_p0_latestMask n_p0_seen f_p0_seen y1) (cwV 0 hts gL_erased_X4_erased rfl rfl rfl (by decide +kernel) ⟨Nat.le_of_ble_eq_true rfl, Nat.le_of_ble_eq_true rfl⟩) ⟨fun a U g mk q => by obtain ⟨q0, q1, qP, qK, qD, qX, qZ⟩ := q; exact ⟨q0, q1, qP, va_K.moved (u := U) (U := U.calling g mk a) (Vm.Alike.refl U.vm) qK, qD, xw_call qX, xz.moved (u := U) (U := U.calling g mk a) (Vm.Alike.refl U.vm) qZ⟩, va_recv hK hPc (ci := 3) (q0 := 0) rfl rfl, fun U hU hW => ⟨rfl, by rw [hU], by rw [hU]; exact hPc, va_K.moved hW.alike hK, hDc.weaken (fun _ _ _ _ => trivial), xw_warm hW hXw, by rw [hU]; exact xz.moved hW.alike (xz.narrow (xz.kept hXz hS.2.1) hFc)⟩⟩ rfl rfl hl.1 rfl (lv_room (Nat.le_of_ble_eq_true rfl)) dL_erased_1 ⟨Nat.le_of_ble_eq_true rfl, Nat.le_of_ble_eq_true rfl⟩) hS (fun q _ h => hFc q h) hFc (fun q _ h => hFc q h) (fun E9 ce9 q9 u9 t9 H1 locs ht9 hvm9 hpx9 hBX9 hz9 hk9 hS hce9 hcv9 hcl9 => ?_) (fun u9 t9 H1 locs ht9 hvm9 hw9 hB9 hz9 hk9 hS => ?_)
  · obtain ⟨hcode, hP1, hK1, hD1⟩ := hBX9
    rw [ht9] at hP1
    obtain ⟨hP, hD⟩ := va_join (wr := []) (w1 := [(a_p0, .inr (3, [.ref a_p0_form, .ref a_p0_code, .ref a_p0_given, .ref a_p0_made, .int i_p0_anyMade, .ref a_p0_seen, .int i_p0_seenCount, .ref a_p0_word, .ref a_p0_lost, .ref a_p0_told, .int i_p0_toldMended, .int i_p0_toldTurned, .int i_p0_latestMask])), (a_p0_seen, .inl (cI, n_p0_seen, .inl f_p0_seen))]) hP hD [0, 1] [] rfl rfl (by decide) (by decide) hk9 hFc hP1 hD1
    have hP := hP.sub (ws' := [(a_p0, .inr (3, [.ref a_p0_form, .ref a_p0_code, .ref a_p0_given, .ref a_p0_made, .int i_p0_anyMade, .ref a_p0_seen, .int i_p0_seenCount, .ref a_p0_word, .ref a_p0_lost, .ref a_p0_told, .int i_p0_toldMended, .int i_p0_toldTurned, .int i_p0_latestMask])), (a_p0_seen, .inl (cI, n_p0_seen, .inl f_p0_seen))]) [0, 1] rfl
    have hD := hD.sub (ws' := [(a_p0, .inr (3, [.ref a_p0_form, .ref a_p0_code, .ref a_p0_given, .ref a_p0_made, .int i_p0_anyMade, .ref a_p0_seen, .int i_p0_seenCount, .ref a_p0_word, .ref a_p0_lost, .ref a_p0_told, .int i_p0_toldMended, .int i_p0_toldTurned, .int i_p0_latestMask])), (a_p0_seen, .inl (cI, n_p0_seen, .inl f_p0_seen))]) [0, 1] (by decide) rfl
    obtain ⟨rfl, hc9⟩ := hcode
    have hc9 : v1 = 1 := hc9
    replace h := im_f (by rw [hc9]; decide) h
    refine wx_catch (E := "java/lang/IllegalStateException") (name := "java/lang/IllegalStateException") hown [] ⟨0, 4, 7, 27⟩ [] (htab.trans rfl) (fun z hz => by cases hz) (by decide) (by decide) (hts _ kl_L_erased_27) (va_Nw.use rfl (xw_c_IS hXw)) hce9 hcv9 hcl9 ?_
    refine lv_astore_n (lv' := [(1, .ref q9), (0, .ref a_p0)]) hx hb dL_erased_7 rfl hl (by decide) rfl (fun ls hl => ?_)
    refine lv_iconst (v := (1 : Int32)) hx hb dL_erased_8 (by decide) ?_
    rw [eQ]
    refine W.widen (k := 1) (n := 6) (by omega) (by omega) ?_
    exact W.iret (v := (1 : Int32)) hx hb hr (fun t ht hW => ⟨⟨_, (i_p0_seenCount, f_p0_seen), rfl, Option.some.inj h, by rw [ht]; exact hP, va_K.moved hW.alike hK, hD⟩, hS.F ht⟩) hS.2.2 dL_erased_9
  · obtain ⟨hP1, hK1, hD1⟩ := hB9
    rw [ht9] at hP1
    obtain ⟨e0, e1⟩ := Prod.mk.inj hw9
    have e1 := e1.symm
    subst e0
    subst e1
    replace h := im_t rfl h
    obtain ⟨hP, hD⟩ := va_join (wr := []) (w1 := [(a_p0, .inr (3, [.ref a_p0_form, .ref a_p0_code, .ref a_p0_given, .ref a_p0_made, .int i_p0_anyMade, .ref a_p0_seen, .int v2, .ref a_p0_word, .ref a_p0_lost, .ref a_p0_told, .int i_p0_toldMended, .int i_p0_toldTurned, .int i_p0_latestMask])), (a_p0_seen, .inl (cI, n_p0_seen, .inl f3))]) hP hD [0, 1] [] rfl rfl (by decide) (by decide) hk9 hFc hP1 hD1
    have hP := hP.sub (ws' := [(a_p0, .inr (3, [.ref a_p0_form, .ref a_p0_code, .ref a_p0_given, .ref a_p0_made, .int i_p0_anyMade, .ref a_p0_seen, .int v2, .ref a_p0_word, .ref a_p0_lost, .ref a_p0_told, .int i_p0_toldMended, .int i_p0_toldTurned, .int i_p0_latestMask])), (a_p0_seen, .inl (cI, n_p0_seen, .inl f3))]) [0, 1] rfl
    have hD := hD.sub (ws' := [(a_p0, .inr (3, [.ref a_p0_form, .ref a_p0_code, .ref a_p0_given, .ref a_p0_made, .int i_p0_anyMade, .ref a_p0_seen, .int v2, .ref a_p0_word, .ref a_p0_lost, .ref a_p0_told, .int i_p0_toldMended, .int i_p0_toldTurned, .int i_p0_latestMask])), (a_p0_seen, .inl (cI, n_p0_seen, .inl f3))]) [0, 1] (by decide) rfl
    refine lv_goto (tgt := 10) hx hb dL_erased_4 (by decide) ?_
    refine lv_iconst (v := (0 : Int32)) hx hb dL_erased_10 (by decide) ?_
    rw [eQ]
    refine W.widen (k := 1) (n := 6) (by omega) (by omega) ?_
    exact W.iret (v := (0 : Int32)) hx hb hr (fun t ht hW => ⟨⟨_, (v2, f3), rfl, Option.some.inj h, by rw [ht]; exact hP, va_K.moved hW.alike hK, hD⟩, hS.F ht⟩) hS.2.2 dL_erased_11
def im_L_value (x1 : Int32) (n_p0_told : Nat) (n_p2 : Nat) (f_p0_told : Nat → Int64) (f_p2 : Nat → Int64) : Option (Int32 × (Nat → Int64)) := im_b2 (im_X4_value x1 n_p0_told f_p0_told) (fun v1 v2 => if v1 = 0 then im_stL n_p2 f_p2 (0 : Int32) v2 (fun f3 => (some ((0 : Int32), f3))) else (some ((1 : Int32), f_p2)))
abbrev rm_L_value : Room := { frames := 8, cells := 1, slots := 6, locals := 131 }
theorem kl_L_value_13 : Cond.classLink RL 13 "java/lang/IndexOutOfBoundsException" ∈ wsL_value := by decide +kernel
theorem cw_L_value : Cond.codeWith yL_value cL_value 4 (some .int) [(0, 8, 11, 13)] ∈ wsL_value := by decide +kernel
set_option maxHeartbeats 4000000 in
set_option maxRecDepth 100000 in
theorem c_L_value (l : Launch) (hl9 : l.stackTraces = false) (dC : Nat → ClassId) (dI : Nat → Nat → Nat) (cI cJ cZ : ClassId) (sz : Nat) (a_p0 a_p0_form a_p0_code a_p0_given a_p0_made a_p0_seen a_p0_word a_p0_lost a_p0_told a_p2 : Nat) (i_p0_anyMade i_p0_seenCount i_p0_toldMended i_p0_toldTurned i_p0_latestMask : Int32) (n_p0_told n_p2 : Nat) (f_p0_told : Nat → Int64) (f_p2 : Nat → Int64) (x1 : Int32) {r : Int32 × (Nat → Int64)} (h : im_L_value x1 n_p0_told n_p2 f_p0_told f_p2 = some r) : Met l yL_value wsL_value rm_L_value (va_Pc [.ref a_p0, .int x1, .ref a_p2] (fun U => U.heap.size = sz ∧ va_P (dC, dI) vwCl [(a_p0, .inr (3, [.ref a_p0_form, .ref a_p0_code, .ref a_p0_given, .ref a_p0_made, .int i_p0_anyMade, .ref a_p0_seen, .int i_p0_seenCount, .ref a_p0_word, .ref a_p0_lost, .ref a_p0_told, .int i_p0_toldMended, .int i_p0_toldTurned, .int i_p0_latestMask])), (a_p0_told, .inl (cJ, n_p0_told, .inr (.inl f_p0_told))), (a_p2, .inl (cJ, n_p2, .inr (.inl f_p2)))] U.heap ∧ va_K (dC, dI) vwCl [(cI, .int), (cJ, .long), (cZ, .boolean)] U ∧ va_D (fun _ => True) [(a_p0, .inr (3, [.ref a_p0_form, .ref a_p0_code, .ref a_p0_given, .ref a_p0_made, .int i_p0_anyMade, .ref a_p0_seen, .int i_p0_seenCount, .ref a_p0_word, .ref a_p0_lost, .ref a_p0_told, .int i_p0_toldMended, .int i_p0_toldTurned, .int i_p0_latestMask])), (a_p0_told, .inl (cJ, n_p0_told, .inr (.inl f_p0_told))), (a_p2, .inl (cJ, n_p2, .inr (.inl f_p2)))] ∧ xw U ∧ xz (va_A [(a_p0, .inr (3, [.ref a_p0_form, .ref a_p0_code, .ref a_p0_given, .ref a_p0_made, .int i_p0_anyMade, .ref a_p0_seen, .int i_p0_seenCount, .ref a_p0_word, .ref a_p0_lost, .ref a_p0_told, .int i_p0_toldMended, .int i_p0_toldTurned, .int i_p0_latestMask])), (a_p0_told, .inl (cJ, n_p0_told, .inr (.inl f_p0_told))), (a_p2, .inl (cJ, n_p2, .inr (.inl f_p2)))] sz) U U.heap)) (va_Qi (S := (Nat → Int64)) (fun r9 u9 => (r9, u9) = r) (fun u9 t9 => va_P (dC, dI) vwCl [(a_p0, .inr (3, [.ref a_p0_form, .ref a_p0_code, .ref a_p0_given, .ref a_p0_made, .int i_p0_anyMade, .ref a_p0_seen, .int i_p0_seenCount, .ref a_p0_word, .ref a_p0_lost, .ref a_p0_told, .int i_p0_toldMended, .int i_p0_toldTurned, .int i_p0_latestMask])), (a_p0_told, .inl (cJ, n_p0_told, .inr (.inl f_p0_told))), (a_p2, .inl (cJ, n_p2, .inr (.inl (u9))))] t9.heap ∧ va_K (dC, dI) vwCl [(cI, .int), (cJ, .long), (cZ, .boolean)] t9 ∧ va_D (va_A [(a_p0, .inr (3, [.ref a_p0_form, .ref a_p0_code, .ref a_p0_given, .ref a_p0_made, .int i_p0_anyMade, .ref a_p0_seen, .int i_p0_seenCount, .ref a_p0_word, .ref a_p0_lost, .ref a_p0_told, .int i_p0_toldMended, .int i_p0_toldTurned, .int i_p0_latestMask])), (a_p0_told, .inl (cJ, n_p0_told, .inr (.inl f_p0_told))), (a_p2, .inl (cJ, n_p2, .inr (.inl f_p2)))] sz) [(a_p0, .inr (3, [.ref a_p0_form, .ref a_p0_code, .ref a_p0_given, .ref a_p0_made, .int i_p0_anyMade, .ref a_p0_seen, .int i_p0_seenCount, .ref a_p0_word, .ref a_p0_lost, .ref a_p0_told, .int i_p0_toldMended, .int i_p0_toldTurned, .int i_p0_latestMask])), (a_p0_told, .inl (cJ, n_p0_told, .inr (.inl f_p0_told))), (a_p2, .inl (cJ, n_p2, .inr (.inl (u9))))]) (va_A [(a_p0, .inr (3, [.ref a_p0_form, .ref a_p0_code, .ref a_p0_given, .ref a_p0_made, .int i_p0_anyMade, .ref a_p0_seen, .int i_p0_seenCount, .ref a_p0_word, .ref a_p0_lost, .ref a_p0_told, .int i_p0_toldMended, .int i_p0_toldTurned, .int i_p0_latestMask])), (a_p0_told, .inl (cJ, n_p0_told, .inr (.inl f_p0_told))), (a_p2, .inl (cJ, n_p2, .inr (.inl f_p2)))] sz)) 1 6 (va_A [(a_p0, .inr (3, [.ref a_p0_form, .ref a_p0_code, .ref a_p0_given, .ref a_p0_made, .int i_p0_anyMade, .ref a_p0_seen, .int i_p0_seenCount, .ref a_p0_word, .ref a_p0_lost, .ref a_p0_told, .int i_p0_toldMended, .int i_p0_toldTurned, .int i_p0_latestMask])), (a_p0_told, .inl (cJ, n_p0_told, .inr (.inl f_p0_told))), (a_p2, .inl (cJ, n_p2, .inr (.inl f_p2)))] sz) := by
  refine va_MetW (cc := cL_value) (maxL := 4) (ret := (some .int)) (hh := [(0, 8, 11, 13)]) (by decide) rfl ?_
  intro p e s m args below meth c s₁ B hml hv
  obtain ⟨eargs, hsz, hP, hK, hD0, hXw, hXz⟩ := hv
  have hx := B.exec
  have hb := B.bytes
  have hr := B.returns
  have hts := atoms_spec (ws := wsL_value) B.pre
  have hown : s.vm.findClass RL = some m.cls := findClass_of_methodNamed B.named
  have hlocks := B.notSynchronized
  have htab := vx_table (x := yL_value) B (hts _ cw_L_value)
  refine im_Q (fun Q eQ => ?_)
  subst hsz
  have hD := hD0.self (sz := s.heap.size)
  generalize hAe : va_A [(a_p0, .inr (3, [.ref a_p0_form, .ref a_p0_code, .ref a_p0_given, .ref a_p0_made, .int i_p0_anyMade, .ref a_p0_seen, .int i_p0_seenCount, .ref a_p0_word, .ref a_p0_lost, .ref a_p0_told, .int i_p0_toldMended, .int i_p0_toldTurned, .int i_p0_latestMask])), (a_p0_told, .inl (cJ, n_p0_told, .inr (.inl f_p0_told))), (a_p2, .inl (cJ, n_p2, .inr (.inl f_p2)))] s.heap.size = A at hD eQ hXz
  have hA : ∀ q : Nat, s.heap.size ≤ q → A q := fun q h => by rw [← hAe]; exact Or.inr h
  have hS : va_S A s.heap s.heap [] := va_S.rf
  have hl := lv_entry [.ref a_p0, .int x1, .ref a_p2] (n := 4) (Nat.le_of_ble_eq_true rfl)
  rw [show entryFrame m args 4 = entryFrame m ([.ref a_p0, .int x1, .ref a_p2] : List Value).toArray 4 by rw [eargs], lg_entry_eq]
  generalize (lg_sl ([.ref a_p0, .int x1, .ref a_p2]) ++ List.replicate (4 - (lg_sl ([.ref a_p0, .int x1, .ref a_p2])).length) Slot.unset).toArray = ls at hl ⊢
  have hl : lv_has ls 4 [(0, .ref a_p0), (1, .int x1), (2, .ref a_p2)] := hl
  rw [im_L_value] at h
  refine lv_aload_n hx hb dL_value_0 rfl (lv_at hl 2 rfl) ?_
  refine lv_iconst (v := (0 : Int32)) hx hb dL_value_1 (by decide) ?_
  refine lv_aload_n hx hb dL_value_2 rfl (lv_at hl 0 rfl) ?_
  refine lv_iload_n hx hb dL_value_3 rfl (lv_at hl 1 rfl) ?_
  obtain ⟨v1, v2, y4, h⟩ := im_b2_u h
  have hPc := hP.sub (ws' := [(a_p0, .inr (3, [.ref a_p0_form, .ref a_p0_code, .ref a_p0_given, .ref a_p0_made, .int i_p0_anyMade, .ref a_p0_seen, .int i_p0_seenCount, .ref a_p0_word, .ref a_p0_lost, .ref a_p0_told, .int i_p0_toldMended, .int i_p0_toldTurned, .int i_p0_latestMask])), (a_p0_told, .inl (cJ, n_p0_told, .inr (.inl f_p0_told)))]) [0, 1] rfl
  have hDc := hD.sub (ws' := [(a_p0, .inr (3, [.ref a_p0_form, .ref a_p0_code, .ref a_p0_given, .ref a_p0_made, .int i_p0_anyMade, .ref a_p0_seen, .int i_p0_seenCount, .ref a_p0_word, .ref a_p0_lost, .ref a_p0_told, .int i_p0_toldMended, .int i_p0_toldTurned, .int i_p0_latestMask])), (a_p0_told, .inl (cJ, n_p0_told, .inr (.inl f_p0_told)))]) [0, 1] (by decide) rfl
  have hFc := va_free (wc := [(a_p0, .inr (3, [.ref a_p0_form, .ref a_p0_code, .ref a_p0_given, .ref a_p0_made, .int i_p0_anyMade, .ref a_p0_seen, .int i_p0_seenCount, .ref a_p0_word, .ref a_p0_lost, .ref a_p0_told, .int i_p0_toldMended, .int i_p0_toldTurned, .int i_p0_latestMask])), (a_p0_told, .inl (cJ, n_p0_told, .inr (.inl f_p0_told)))]) hD hS hA [0, 1] rfl
  refine vx_calll (vx_runV (As := [.int x1]) (rest := [.int (0 : Int32), .ref a_p2]) ⟨hx, hb, hml, hown, hts⟩ (c_X4_value l hl9 dC dI cI cJ cZ s.heap.size a_p0 a_p0_form a_p0_code a_p0_given a_p0_made a_p0_seen a_p0_word a_p0_lost a_p0_told i_p0_anyMade i_p0_seenCount i_p0_toldMended i_p0_toldTurned i_p0_latestMask n_p0_told f_p0_told x1 y4) (cwV 1 hts gL_value_X4_value rfl rfl rfl (by decide +kernel) ⟨Nat.le_of_ble_eq_true rfl, Nat.le_of_ble_eq_true rfl⟩) ⟨fun a U g mk q => by obtain ⟨q0, q1, qP, qK, qD, qX, qZ⟩ := q; exact ⟨q0, q1, qP, va_K.moved (u := U) (U := U.calling g mk a) (Vm.Alike.refl U.vm) qK, qD, xw_call qX, xz.moved (u := U) (U := U.calling g mk a) (Vm.Alike.refl U.vm) qZ⟩, va_recv hK hPc (ci := 3) (q0 := 0) rfl rfl, fun U hU hW => ⟨rfl, by rw [hU], by rw [hU]; exact hPc, va_K.moved hW.alike hK, hDc.weaken (fun _ _ _ _ => trivial), xw_warm hW hXw, by rw [hU]; exact xz.moved hW.alike (xz.narrow (xz.kept hXz hS.2.1) hFc)⟩⟩ rfl rfl hl.1 rfl (lv_room (Nat.le_of_ble_eq_true rfl)) dL_value_4 ⟨Nat.le_of_ble_eq_true rfl, Nat.le_of_ble_eq_true rfl⟩) hS (fun q _ h => hFc q h) hFc (fun q _ h => hFc q h) (fun E9 ce9 q9 u9 t9 H1 locs ht9 hvm9 hpx9 hBX9 hz9 hk9 hS hce9 hcv9 hcl9 => ?_) (fun r9 u9 t9 H1 locs ht9 hvm9 hw9 hB9 hz9 hk9 hS => ?_)
  · obtain ⟨hcode, hP1, hK1, hD1⟩ := hBX9
    rw [ht9] at hP1
    obtain ⟨hP, hD⟩ := va_join (wr := [(a_p2, .inl (cJ, n_p2, .inr (.inl f_p2)))]) (w1 := [(a_p0, .inr (3, [.ref a_p0_form, .ref a_p0_code, .ref a_p0_given, .ref a_p0_made, .int i_p0_anyMade, .ref a_p0_seen, .int i_p0_seenCount, .ref a_p0_word, .ref a_p0_lost, .ref a_p0_told, .int i_p0_toldMended, .int i_p0_toldTurned, .int i_p0_latestMask])), (a_p0_told, .inl (cJ, n_p0_told, .inr (.inl f_p0_told)))]) hP hD [0, 1] [2] rfl rfl (by decide) (by decide) hk9 hFc hP1 hD1
    have hP := hP.sub (ws' := [(a_p0, .inr (3, [.ref a_p0_form, .ref a_p0_code, .ref a_p0_given, .ref a_p0_made, .int i_p0_anyMade, .ref a_p0_seen, .int i_p0_seenCount, .ref a_p0_word, .ref a_p0_lost, .ref a_p0_told, .int i_p0_toldMended, .int i_p0_toldTurned, .int i_p0_latestMask])), (a_p0_told, .inl (cJ, n_p0_told, .inr (.inl f_p0_told))), (a_p2, .inl (cJ, n_p2, .inr (.inl f_p2)))]) [1, 2, 0] rfl
    have hD := hD.sub (ws' := [(a_p0, .inr (3, [.ref a_p0_form, .ref a_p0_code, .ref a_p0_given, .ref a_p0_made, .int i_p0_anyMade, .ref a_p0_seen, .int i_p0_seenCount, .ref a_p0_word, .ref a_p0_lost, .ref a_p0_told, .int i_p0_toldMended, .int i_p0_toldTurned, .int i_p0_latestMask])), (a_p0_told, .inl (cJ, n_p0_told, .inr (.inl f_p0_told))), (a_p2, .inl (cJ, n_p2, .inr (.inl f_p2)))]) [1, 2, 0] (by decide) rfl
    obtain ⟨rfl, hc9⟩ := hcode
    have hc9 : v1 = 1 := hc9
    replace h := im_f (by rw [hc9]; decide) h
    refine wx_catch (E := "java/lang/IndexOutOfBoundsException") (name := "java/lang/IndexOutOfBoundsException") hown [] ⟨0, 8, 11, 13⟩ [] (htab.trans rfl) (fun z hz => by cases hz) (by decide) (by decide) (hts _ kl_L_value_13) (va_Nw.use rfl (xw_c_IO hXw)) hce9 hcv9 hcl9 ?_
    refine lv_astore_n (lv' := [(3, .ref q9), (0, .ref a_p0), (1, .int x1), (2, .ref a_p2)]) hx hb dL_value_11 rfl hl (by decide) rfl (fun ls hl => ?_)
    refine lv_iconst (v := (1 : Int32)) hx hb dL_value_12 (by decide) ?_
    rw [eQ]
    refine W.widen (k := 1) (n := 6) (by omega) (by omega) ?_
    exact W.iret (v := (1 : Int32)) hx hb hr (fun t ht hW => ⟨⟨_, f_p2, rfl, Option.some.inj h, by rw [ht]; exact hP, va_K.moved hW.alike hK, hD⟩, hS.F ht⟩) hS.2.2 dL_value_13
  · obtain ⟨hP1, hK1, hD1⟩ := hB9
    rw [ht9] at hP1
    obtain ⟨e0, e1⟩ := Prod.mk.inj hw9
    have e1 := e1.symm
    subst e0
    subst e1
    replace h := im_t rfl h
    obtain ⟨hP, hD⟩ := va_join (wr := [(a_p2, .inl (cJ, n_p2, .inr (.inl f_p2)))]) (w1 := [(a_p0, .inr (3, [.ref a_p0_form, .ref a_p0_code, .ref a_p0_given, .ref a_p0_made, .int i_p0_anyMade, .ref a_p0_seen, .int i_p0_seenCount, .ref a_p0_word, .ref a_p0_lost, .ref a_p0_told, .int i_p0_toldMended, .int i_p0_toldTurned, .int i_p0_latestMask])), (a_p0_told, .inl (cJ, n_p0_told, .inr (.inl f_p0_told)))]) hP hD [0, 1] [2] rfl rfl (by decide) (by decide) hk9 hFc hP1 hD1
    have hP := hP.sub (ws' := [(a_p0, .inr (3, [.ref a_p0_form, .ref a_p0_code, .ref a_p0_given, .ref a_p0_made, .int i_p0_anyMade, .ref a_p0_seen, .int i_p0_seenCount, .ref a_p0_word, .ref a_p0_lost, .ref a_p0_told, .int i_p0_toldMended, .int i_p0_toldTurned, .int i_p0_latestMask])), (a_p0_told, .inl (cJ, n_p0_told, .inr (.inl f_p0_told))), (a_p2, .inl (cJ, n_p2, .inr (.inl f_p2)))]) [1, 2, 0] rfl
    have hD := hD.sub (ws' := [(a_p0, .inr (3, [.ref a_p0_form, .ref a_p0_code, .ref a_p0_given, .ref a_p0_made, .int i_p0_anyMade, .ref a_p0_seen, .int i_p0_seenCount, .ref a_p0_word, .ref a_p0_lost, .ref a_p0_told, .int i_p0_toldMended, .int i_p0_toldTurned, .int i_p0_latestMask])), (a_p0_told, .inl (cJ, n_p0_told, .inr (.inl f_p0_told))), (a_p2, .inl (cJ, n_p2, .inr (.inl f_p2)))]) [1, 2, 0] (by decide) rfl
    obtain ⟨q7, h⟩ := im_stL_u h
    refine va_last hx hb hK hP hD hS 2 1 rfl rfl q7 dL_value_7 (fun H locs hP hD hS => ?_)
    obtain ⟨f3, ef3⟩ : ∃ g : Nat → Int64, g = vp_updL f_p2 (0 : Int32).toNatClampNeg v2 := ⟨_, rfl⟩
    replace h := h f3 ef3
    rw [← ef3] at hP hD
    have hP : va_P (dC, dI) vwCl [(a_p0, .inr (3, [.ref a_p0_form, .ref a_p0_code, .ref a_p0_given, .ref a_p0_made, .int i_p0_anyMade, .ref a_p0_seen, .int i_p0_seenCount, .ref a_p0_word, .ref a_p0_lost, .ref a_p0_told, .int i_p0_toldMended, .int i_p0_toldTurned, .int i_p0_latestMask])), (a_p0_told, .inl (cJ, n_p0_told, .inr (.inl f_p0_told))), (a_p2, .inl (cJ, n_p2, .inr (.inl f3)))] H := hP
    have hD : va_D A [(a_p0, .inr (3, [.ref a_p0_form, .ref a_p0_code, .ref a_p0_given, .ref a_p0_made, .int i_p0_anyMade, .ref a_p0_seen, .int i_p0_seenCount, .ref a_p0_word, .ref a_p0_lost, .ref a_p0_told, .int i_p0_toldMended, .int i_p0_toldTurned, .int i_p0_latestMask])), (a_p0_told, .inl (cJ, n_p0_told, .inr (.inl f_p0_told))), (a_p2, .inl (cJ, n_p2, .inr (.inl f3)))] := hD
    refine lv_goto (tgt := 14) hx hb dL_value_8 (by decide) ?_
    refine lv_iconst (v := (0 : Int32)) hx hb dL_value_14 (by decide) ?_
    rw [eQ]
    refine W.widen (k := 1) (n := 6) (by omega) (by omega) ?_
    exact W.iret (v := (0 : Int32)) hx hb hr (fun t ht hW => ⟨⟨_, f3, rfl, Option.some.inj h, by rw [ht]; exact hP, va_K.moved hW.alike hK, hD⟩, hS.F ht⟩) hS.2.2 dL_value_15
def im_L_over (x1 : Int32) (x2 : Int32) (n_p3 : Nat) (f_p3 : Nat → Int64) : Option (Int32 × (Nat → Int64)) := im_b2 (im_X4_over x1 x2) (fun v1 v2 => if v1 = 0 then im_lt v2.toInt64 (fun v3 => im_stL n_p3 f_p3 (0 : Int32) v3 (fun f4 => (some ((0 : Int32), f4)))) else (some ((1 : Int32), f_p3)))
abbrev rm_L_over : Room := { frames := 8, cells := 1, slots := 6, locals := 133 }
theorem kl_L_over_40 : Cond.classLink RL 40 "java/lang/ArithmeticException" ∈ wsL_over := by decide +kernel
theorem cw_L_over : Cond.codeWith yL_over cL_over 5 (some .int) [(0, 10, 13, 40)] ∈ wsL_over := by decide +kernel
set_option maxHeartbeats 4000000 in
set_option maxRecDepth 100000 in
theorem c_L_over (l : Launch) (hl9 : l.stackTraces = false) (dC : Nat → ClassId) (dI : Nat → Nat → Nat) (cI cJ cZ : ClassId) (sz : Nat) (a_p0 a_p0_form a_p0_code a_p0_given a_p0_made a_p0_seen a_p0_word a_p0_lost a_p0_told a_p3 : Nat) (i_p0_anyMade i_p0_seenCount i_p0_toldMended i_p0_toldTurned i_p0_latestMask : Int32) (n_p3 : Nat) (f_p3 : Nat → Int64) (x1 : Int32) (x2 : Int32) {r : Int32 × (Nat → Int64)} (h : im_L_over x1 x2 n_p3 f_p3 = some r) : Met l yL_over wsL_over rm_L_over (va_Pc [.ref a_p0, .int x1, .int x2, .ref a_p3] (fun U => U.heap.size = sz ∧ va_P (dC, dI) vwCl [(a_p0, .inr (3, [.ref a_p0_form, .ref a_p0_code, .ref a_p0_given, .ref a_p0_made, .int i_p0_anyMade, .ref a_p0_seen, .int i_p0_seenCount, .ref a_p0_word, .ref a_p0_lost, .ref a_p0_told, .int i_p0_toldMended, .int i_p0_toldTurned, .int i_p0_latestMask])), (a_p3, .inl (cJ, n_p3, .inr (.inl f_p3)))] U.heap ∧ va_K (dC, dI) vwCl [(cI, .int), (cJ, .long), (cZ, .boolean)] U ∧ va_D (fun _ => True) [(a_p0, .inr (3, [.ref a_p0_form, .ref a_p0_code, .ref a_p0_given, .ref a_p0_made, .int i_p0_anyMade, .ref a_p0_seen, .int i_p0_seenCount, .ref a_p0_word, .ref a_p0_lost, .ref a_p0_told, .int i_p0_toldMended, .int i_p0_toldTurned, .int i_p0_latestMask])), (a_p3, .inl (cJ, n_p3, .inr (.inl f_p3)))] ∧ xw U ∧ xz (va_A [(a_p0, .inr (3, [.ref a_p0_form, .ref a_p0_code, .ref a_p0_given, .ref a_p0_made, .int i_p0_anyMade, .ref a_p0_seen, .int i_p0_seenCount, .ref a_p0_word, .ref a_p0_lost, .ref a_p0_told, .int i_p0_toldMended, .int i_p0_toldTurned, .int i_p0_latestMask])), (a_p3, .inl (cJ, n_p3, .inr (.inl f_p3)))] sz) U U.heap)) (va_Qi (S := (Nat → Int64)) (fun r9 u9 => (r9, u9) = r) (fun u9 t9 => va_P (dC, dI) vwCl [(a_p0, .inr (3, [.ref a_p0_form, .ref a_p0_code, .ref a_p0_given, .ref a_p0_made, .int i_p0_anyMade, .ref a_p0_seen, .int i_p0_seenCount, .ref a_p0_word, .ref a_p0_lost, .ref a_p0_told, .int i_p0_toldMended, .int i_p0_toldTurned, .int i_p0_latestMask])), (a_p3, .inl (cJ, n_p3, .inr (.inl (u9))))] t9.heap ∧ va_K (dC, dI) vwCl [(cI, .int), (cJ, .long), (cZ, .boolean)] t9 ∧ va_D (va_A [(a_p0, .inr (3, [.ref a_p0_form, .ref a_p0_code, .ref a_p0_given, .ref a_p0_made, .int i_p0_anyMade, .ref a_p0_seen, .int i_p0_seenCount, .ref a_p0_word, .ref a_p0_lost, .ref a_p0_told, .int i_p0_toldMended, .int i_p0_toldTurned, .int i_p0_latestMask])), (a_p3, .inl (cJ, n_p3, .inr (.inl f_p3)))] sz) [(a_p0, .inr (3, [.ref a_p0_form, .ref a_p0_code, .ref a_p0_given, .ref a_p0_made, .int i_p0_anyMade, .ref a_p0_seen, .int i_p0_seenCount, .ref a_p0_word, .ref a_p0_lost, .ref a_p0_told, .int i_p0_toldMended, .int i_p0_toldTurned, .int i_p0_latestMask])), (a_p3, .inl (cJ, n_p3, .inr (.inl (u9))))]) (va_A [(a_p0, .inr (3, [.ref a_p0_form, .ref a_p0_code, .ref a_p0_given, .ref a_p0_made, .int i_p0_anyMade, .ref a_p0_seen, .int i_p0_seenCount, .ref a_p0_word, .ref a_p0_lost, .ref a_p0_told, .int i_p0_toldMended, .int i_p0_toldTurned, .int i_p0_latestMask])), (a_p3, .inl (cJ, n_p3, .inr (.inl f_p3)))] sz)) 1 6 (va_A [(a_p0, .inr (3, [.ref a_p0_form, .ref a_p0_code, .ref a_p0_given, .ref a_p0_made, .int i_p0_anyMade, .ref a_p0_seen, .int i_p0_seenCount, .ref a_p0_word, .ref a_p0_lost, .ref a_p0_told, .int i_p0_toldMended, .int i_p0_toldTurned, .int i_p0_latestMask])), (a_p3, .inl (cJ, n_p3, .inr (.inl f_p3)))] sz) := by
  refine va_MetW (cc := cL_over) (maxL := 5) (ret := (some .int)) (hh := [(0, 10, 13, 40)]) (by decide) rfl ?_
  intro p e s m args below meth c s₁ B hml hv
  obtain ⟨eargs, hsz, hP, hK, hD0, hXw, hXz⟩ := hv
  have hx := B.exec
  have hb := B.bytes
  have hr := B.returns
  have hts := atoms_spec (ws := wsL_over) B.pre
  have hown : s.vm.findClass RL = some m.cls := findClass_of_methodNamed B.named
  have hlocks := B.notSynchronized
  have htab := vx_table (x := yL_over) B (hts _ cw_L_over)
  refine im_Q (fun Q eQ => ?_)
  subst hsz
  have hD := hD0.self (sz := s.heap.size)
  generalize hAe : va_A [(a_p0, .inr (3, [.ref a_p0_form, .ref a_p0_code, .ref a_p0_given, .ref a_p0_made, .int i_p0_anyMade, .ref a_p0_seen, .int i_p0_seenCount, .ref a_p0_word, .ref a_p0_lost, .ref a_p0_told, .int i_p0_toldMended, .int i_p0_toldTurned, .int i_p0_latestMask])), (a_p3, .inl (cJ, n_p3, .inr (.inl f_p3)))] s.heap.size = A at hD eQ hXz
  have hA : ∀ q : Nat, s.heap.size ≤ q → A q := fun q h => by rw [← hAe]; exact Or.inr h
  have hS : va_S A s.heap s.heap [] := va_S.rf
  have hl := lv_entry [.ref a_p0, .int x1, .int x2, .ref a_p3] (n := 5) (Nat.le_of_ble_eq_true rfl)
  rw [show entryFrame m args 5 = entryFrame m ([.ref a_p0, .int x1, .int x2, .ref a_p3] : List Value).toArray 5 by rw [eargs], lg_entry_eq]
  generalize (lg_sl ([.ref a_p0, .int x1, .int x2, .ref a_p3]) ++ List.replicate (5 - (lg_sl ([.ref a_p0, .int x1, .int x2, .ref a_p3])).length) Slot.unset).toArray = ls at hl ⊢
  have hl : lv_has ls 5 [(0, .ref a_p0), (1, .int x1), (2, .int x2), (3, .ref a_p3)] := hl
  rw [im_L_over] at h
  refine lv_aload_n hx hb dL_over_0 rfl (lv_at hl 3 rfl) ?_
  refine lv_iconst (v := (0 : Int32)) hx hb dL_over_1 (by decide) ?_
  refine lv_aload_n hx hb dL_over_2 rfl (lv_at hl 0 rfl) ?_
  refine lv_iload_n hx hb dL_over_3 rfl (lv_at hl 1 rfl) ?_
  refine lv_iload_n hx hb dL_over_4 rfl (lv_at hl 2 rfl) ?_
  obtain ⟨v1, v2, y5, h⟩ := im_b2_u h
  have hPc := hP.sub (ws' := [(a_p0, .inr (3, [.ref a_p0_form, .ref a_p0_code, .ref a_p0_given, .ref a_p0_made, .int i_p0_anyMade, .ref a_p0_seen, .int i_p0_seenCount, .ref a_p0_word, .ref a_p0_lost, .ref a_p0_told, .int i_p0_toldMended, .int i_p0_toldTurned, .int i_p0_latestMask]))]) [0] rfl
  have hDc := hD.sub (ws' := [(a_p0, .inr (3, [.ref a_p0_form, .ref a_p0_code, .ref a_p0_given, .ref a_p0_made, .int i_p0_anyMade, .ref a_p0_seen, .int i_p0_seenCount, .ref a_p0_word, .ref a_p0_lost, .ref a_p0_told, .int i_p0_toldMended, .int i_p0_toldTurned, .int i_p0_latestMask]))]) [0] (by decide) rfl
  have hFc := va_free (wc := [(a_p0, .inr (3, [.ref a_p0_form, .ref a_p0_code, .ref a_p0_given, .ref a_p0_made, .int i_p0_anyMade, .ref a_p0_seen, .int i_p0_seenCount, .ref a_p0_word, .ref a_p0_lost, .ref a_p0_told, .int i_p0_toldMended, .int i_p0_toldTurned, .int i_p0_latestMask]))]) hD hS hA [0] rfl
  refine vx_calli (vx_runV (As := [.int x1, .int x2]) (rest := [.int (0 : Int32), .ref a_p3]) ⟨hx, hb, hml, hown, hts⟩ (c_X4_over l hl9 dC dI cI cJ cZ s.heap.size a_p0 a_p0_form a_p0_code a_p0_given a_p0_made a_p0_seen a_p0_word a_p0_lost a_p0_told i_p0_anyMade i_p0_seenCount i_p0_toldMended i_p0_toldTurned i_p0_latestMask x1 x2 y5) (cwV 2 hts gL_over_X4_over rfl rfl rfl (by decide +kernel) ⟨Nat.le_of_ble_eq_true rfl, Nat.le_of_ble_eq_true rfl⟩) ⟨fun a U g mk q => by obtain ⟨q0, q1, qP, qK, qD, qX, qZ⟩ := q; exact ⟨q0, q1, qP, va_K.moved (u := U) (U := U.calling g mk a) (Vm.Alike.refl U.vm) qK, qD, xw_call qX, xz.moved (u := U) (U := U.calling g mk a) (Vm.Alike.refl U.vm) qZ⟩, va_recv hK hPc (ci := 3) (q0 := 0) rfl rfl, fun U hU hW => ⟨rfl, by rw [hU], by rw [hU]; exact hPc, va_K.moved hW.alike hK, hDc.weaken (fun _ _ _ _ => trivial), xw_warm hW hXw, by rw [hU]; exact xz.moved hW.alike (xz.narrow (xz.kept hXz hS.2.1) hFc)⟩⟩ rfl rfl hl.1 rfl (lv_room (Nat.le_of_ble_eq_true rfl)) dL_over_5 ⟨Nat.le_of_ble_eq_true rfl, Nat.le_of_ble_eq_true rfl⟩) hS (fun q _ h => hFc q h) hFc (fun q _ h => hFc q h) (fun E9 ce9 q9 u9 t9 H1 locs ht9 hvm9 hpx9 hBX9 hz9 hk9 hS hce9 hcv9 hcl9 => ?_) (fun r9 u9 t9 H1 locs ht9 hvm9 hw9 hB9 hz9 hk9 hS => ?_)
  · obtain ⟨hcode, hP1, hK1, hD1⟩ := hBX9
    rw [ht9] at hP1
    obtain ⟨hP, hD⟩ := va_join (wr := [(a_p3, .inl (cJ, n_p3, .inr (.inl f_p3)))]) (w1 := [(a_p0, .inr (3, [.ref a_p0_form, .ref a_p0_code, .ref a_p0_given, .ref a_p0_made, .int i_p0_anyMade, .ref a_p0_seen, .int i_p0_seenCount, .ref a_p0_word, .ref a_p0_lost, .ref a_p0_told, .int i_p0_toldMended, .int i_p0_toldTurned, .int i_p0_latestMask]))]) hP hD [0] [1] rfl rfl (by decide) (by decide) hk9 hFc hP1 hD1
    have hP := hP.sub (ws' := [(a_p0, .inr (3, [.ref a_p0_form, .ref a_p0_code, .ref a_p0_given, .ref a_p0_made, .int i_p0_anyMade, .ref a_p0_seen, .int i_p0_seenCount, .ref a_p0_word, .ref a_p0_lost, .ref a_p0_told, .int i_p0_toldMended, .int i_p0_toldTurned, .int i_p0_latestMask])), (a_p3, .inl (cJ, n_p3, .inr (.inl f_p3)))]) [1, 0] rfl
    have hD := hD.sub (ws' := [(a_p0, .inr (3, [.ref a_p0_form, .ref a_p0_code, .ref a_p0_given, .ref a_p0_made, .int i_p0_anyMade, .ref a_p0_seen, .int i_p0_seenCount, .ref a_p0_word, .ref a_p0_lost, .ref a_p0_told, .int i_p0_toldMended, .int i_p0_toldTurned, .int i_p0_latestMask])), (a_p3, .inl (cJ, n_p3, .inr (.inl f_p3)))]) [1, 0] (by decide) rfl
    obtain ⟨rfl, hc9⟩ := hcode
    have hc9 : v1 = 1 := hc9
    replace h := im_f (by rw [hc9]; decide) h
    refine wx_catch (E := "java/lang/ArithmeticException") (name := "java/lang/ArithmeticException") hown [] ⟨0, 10, 13, 40⟩ [] (htab.trans rfl) (fun z hz => by cases hz) (by decide) (by decide) (hts _ kl_L_over_40) (va_Nw.use rfl (xw_c_AE hXw)) hce9 hcv9 hcl9 ?_
    refine lv_astore (lv' := [(4, .ref q9), (0, .ref a_p0), (1, .int x1), (2, .int x2), (3, .ref a_p3)]) hx hb dL_over_13 hl (by decide) rfl (fun ls hl => ?_)
    refine lv_iconst (v := (1 : Int32)) hx hb dL_over_15 (by decide) ?_
    rw [eQ]
    refine W.widen (k := 1) (n := 6) (by omega) (by omega) ?_
    exact W.iret (v := (1 : Int32)) hx hb hr (fun t ht hW => ⟨⟨_, f_p3, rfl, Option.some.inj h, by rw [ht]; exact hP, va_K.moved hW.alike hK, hD⟩, hS.F ht⟩) hS.2.2 dL_over_16
  · obtain ⟨hP1, hK1, hD1⟩ := hB9
    rw [ht9] at hP1
    obtain ⟨e0, e1⟩ := Prod.mk.inj hw9
    have e1 := e1.symm
    subst e0
    subst e1
    replace h := im_t rfl h
    obtain ⟨hP, hD⟩ := va_join (wr := [(a_p3, .inl (cJ, n_p3, .inr (.inl f_p3)))]) (w1 := [(a_p0, .inr (3, [.ref a_p0_form, .ref a_p0_code, .ref a_p0_given, .ref a_p0_made, .int i_p0_anyMade, .ref a_p0_seen, .int i_p0_seenCount, .ref a_p0_word, .ref a_p0_lost, .ref a_p0_told, .int i_p0_toldMended, .int i_p0_toldTurned, .int i_p0_latestMask]))]) hP hD [0] [1] rfl rfl (by decide) (by decide) hk9 hFc hP1 hD1
    have hP := hP.sub (ws' := [(a_p0, .inr (3, [.ref a_p0_form, .ref a_p0_code, .ref a_p0_given, .ref a_p0_made, .int i_p0_anyMade, .ref a_p0_seen, .int i_p0_seenCount, .ref a_p0_word, .ref a_p0_lost, .ref a_p0_told, .int i_p0_toldMended, .int i_p0_toldTurned, .int i_p0_latestMask])), (a_p3, .inl (cJ, n_p3, .inr (.inl f_p3)))]) [1, 0] rfl
    have hD := hD.sub (ws' := [(a_p0, .inr (3, [.ref a_p0_form, .ref a_p0_code, .ref a_p0_given, .ref a_p0_made, .int i_p0_anyMade, .ref a_p0_seen, .int i_p0_seenCount, .ref a_p0_word, .ref a_p0_lost, .ref a_p0_told, .int i_p0_toldMended, .int i_p0_toldTurned, .int i_p0_latestMask])), (a_p3, .inl (cJ, n_p3, .inr (.inl f_p3)))]) [1, 0] (by decide) rfl
    refine lv_i2l hx hb dL_over_8 rfl ?_
    refine lv_topl (fun v3 ev3 => ?_)
    replace h := im_lt_u h v3 ev3
    obtain ⟨q9, h⟩ := im_stL_u h
    refine va_last hx hb hK hP hD hS 1 1 rfl rfl q9 dL_over_9 (fun H locs hP hD hS => ?_)
    obtain ⟨f4, ef4⟩ : ∃ g : Nat → Int64, g = vp_updL f_p3 (0 : Int32).toNatClampNeg v3 := ⟨_, rfl⟩
    replace h := h f4 ef4
    rw [← ef4] at hP hD
    have hP : va_P (dC, dI) vwCl [(a_p0, .inr (3, [.ref a_p0_form, .ref a_p0_code, .ref a_p0_given, .ref a_p0_made, .int i_p0_anyMade, .ref a_p0_seen, .int i_p0_seenCount, .ref a_p0_word, .ref a_p0_lost, .ref a_p0_told, .int i_p0_toldMended, .int i_p0_toldTurned, .int i_p0_latestMask])), (a_p3, .inl (cJ, n_p3, .inr (.inl f4)))] H := hP
    have hD : va_D A [(a_p0, .inr (3, [.ref a_p0_form, .ref a_p0_code, .ref a_p0_given, .ref a_p0_made, .int i_p0_anyMade, .ref a_p0_seen, .int i_p0_seenCount, .ref a_p0_word, .ref a_p0_lost, .ref a_p0_told, .int i_p0_toldMended, .int i_p0_toldTurned, .int i_p0_latestMask])), (a_p3, .inl (cJ, n_p3, .inr (.inl f4)))] := hD
    refine lv_goto (tgt := 17) hx hb dL_over_10 (by decide) ?_
    refine lv_iconst (v := (0 : Int32)) hx hb dL_over_17 (by decide) ?_
    rw [eQ]
    refine W.widen (k := 1) (n := 6) (by omega) (by omega) ?_
    exact W.iret (v := (0 : Int32)) hx hb hr (fun t ht hW => ⟨⟨_, f4, rfl, Option.some.inj h, by rw [ht]; exact hP, va_K.moved hW.alike hK, hD⟩, hS.F ht⟩) hS.2.2 dL_over_18
