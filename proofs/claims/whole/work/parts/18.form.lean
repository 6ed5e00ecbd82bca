def im_X2_checksOf (x0 : Int32) : Option (Int32) := if x0 = (0 : Int32) then (some (4 : Int32)) else if x0 = (1 : Int32) then (some (6 : Int32)) else if x0 = (2 : Int32) then (some (8 : Int32)) else (some (2 : Int32))
abbrev rm_X2_checksOf : Room := { frames := 0, cells := 0, slots := 0, locals := 0 }
set_option maxHeartbeats 4000000 in
set_option maxRecDepth 100000 in
theorem c_X2_checksOf (l : Launch) (x0 : Int32) {r : Int32} (h : im_X2_checksOf x0 = some r) : Met l yX2_checksOf wsX2_checksOf rm_X2_checksOf (va_Pc [.int x0] (fun U => True)) (vp_Si (fun r9 => r9 = r)) 0 0 (fun _ => False) := by
  refine Met.ofW (cc := cX2_checksOf) (maxL := 1) (ret := (some .int)) (by decide) rfl ?_
  intro p e s m args below meth c s₁ B hml hv
  obtain ⟨eargs, -⟩ := hv
  have hx := B.exec
  have hb := B.bytes
  have hr := B.returns
  have hts := atoms_spec (ws := wsX2_checksOf) B.pre
  have hown : s.vm.findClass RX2 = some m.cls := findClass_of_methodNamed B.named
  have hlocks := B.notSynchronized
  refine im_Q (fun Q eQ => ?_)
  have hl := lv_entry [.int x0] (n := 1) (Nat.le_of_ble_eq_true rfl)
  rw [show entryFrame m args 1 = entryFrame m ([.int x0] : List Value).toArray 1 by rw [eargs], lg_entry_eq]
  generalize (lg_sl ([.int x0]) ++ List.replicate (1 - (lg_sl ([.int x0])).length) Slot.unset).toArray = ls at hl ⊢
  have hl : lv_has ls 1 [(0, .int x0)] := hl
  rw [im_X2_checksOf] at h
  refine lv_iload_n hx hb dX2_checksOf_0 rfl (lv_at hl 0 rfl) ?_
  by_cases c1_0 : x0 = (0 : Int32)
  · replace h := im_t c1_0 h
    refine lv_tableIn (tgt := 28) hx hb dX2_checksOf_1 (by rw [c1_0]; decide) (by rw [c1_0]; decide) (by rw [c1_0]; rfl) (by decide) ?_
    refine lv_iconst (v := (4 : Int32)) hx hb dX2_checksOf_28 (by decide) ?_
    rw [eQ]
    exact W.iret (v := (4 : Int32)) hx hb hr (fun t ht hW => ⟨_, rfl, Option.some.inj h, ht⟩) (fun _ h9 => by cases h9) dX2_checksOf_29
  · replace h := im_f c1_0 h
    by_cases c1_1 : x0 = (1 : Int32)
    · replace h := im_t c1_1 h
      refine lv_tableIn (tgt := 30) hx hb dX2_checksOf_1 (by rw [c1_1]; decide) (by rw [c1_1]; decide) (by rw [c1_1]; rfl) (by decide) ?_
      refine lv_bipush (v := (6 : Int32)) hx hb dX2_checksOf_30 (by decide) ?_
      rw [eQ]
      exact W.iret (v := (6 : Int32)) hx hb hr (fun t ht hW => ⟨_, rfl, Option.some.inj h, ht⟩) (fun _ h9 => by cases h9) dX2_checksOf_32
    · replace h := im_f c1_1 h
      by_cases c1_2 : x0 = (2 : Int32)
      · replace h := im_t c1_2 h
        refine lv_tableIn (tgt := 33) hx hb dX2_checksOf_1 (by rw [c1_2]; decide) (by rw [c1_2]; decide) (by rw [c1_2]; rfl) (by decide) ?_
        refine lv_bipush (v := (8 : Int32)) hx hb dX2_checksOf_33 (by decide) ?_
        rw [eQ]
        exact W.iret (v := (8 : Int32)) hx hb hr (fun t ht hW => ⟨_, rfl, Option.some.inj h, ht⟩) (fun _ h9 => by cases h9) dX2_checksOf_35
      · replace h := im_f c1_2 h
        refine lv_tableOut (tgt := 36) hx hb dX2_checksOf_1 (by have e1_0 : x0.toInt ≠ 0 := fun q => c1_0 (Int32.toInt_inj.mp (q.trans (by decide))); have e1_1 : x0.toInt ≠ 1 := fun q => c1_1 (Int32.toInt_inj.mp (q.trans (by decide))); have e1_2 : x0.toInt ≠ 2 := fun q => c1_2 (Int32.toInt_inj.mp (q.trans (by decide))); omega) (by decide) ?_
        refine lv_iconst (v := (2 : Int32)) hx hb dX2_checksOf_36 (by decide) ?_
        rw [eQ]
        exact W.iret (v := (2 : Int32)) hx hb hr (fun t ht hW => ⟨_, rfl, Option.some.inj h, ht⟩) (fun _ h9 => by cases h9) dX2_checksOf_37
def im_X2_dataSymbols_L10 (n_p0 : Nat) (K2 : Int32 → Option (Int32)) (f_p0 : Nat → Int32) : Nat → Int32 → Int32 → Option (Int32)
  | 0, _, _ => none
  | n + 1, v4, v5 => if (nI n_p0) ≤ v5 then (K2 v4) else im_ld n_p0 f_p0 v5 (fun v7 => im_lt (v4 + v7) (fun v8 => im_lt (v5 + (1 : Int32)) (fun v9 => (im_X2_dataSymbols_L10 n_p0 K2 f_p0 n v8 v9))))
def im_X2_dataSymbols (n_p0 : Nat) (f_p0 : Nat → Int32) : Option (Int32) := im_j1 (fun (v1 : Int32) => im_lt (v1 / (6 : Int32)) (fun v3 => (some v3))) (fun K2 => (im_X2_dataSymbols_L10 n_p0 K2 f_p0 5000 (0 : Int32) (0 : Int32)))
abbrev rm_X2_dataSymbols : Room := { frames := 0, cells := 0, slots := 0, locals := 0 }
set_option maxHeartbeats 4000000 in
set_option maxRecDepth 100000 in
theorem c_X2_dataSymbols (l : Launch) (dC : Nat → ClassId) (dI : Nat → Nat → Nat) (cI cJ cZ : ClassId) (a_p0 : Nat) (n_p0 : Nat) (f_p0 : Nat → Int32) {r : Int32} (h : im_X2_dataSymbols n_p0 f_p0 = some r) : Met l yX2_dataSymbols wsX2_dataSymbols rm_X2_dataSymbols (va_Pc [.ref a_p0] (fun U => va_T .int a_p0 n_p0 (fun j => .int (f_p0 j)) (fun _ => False) U U.heap)) (vp_Si (fun r9 => r9 = r)) 0 0 (fun _ => False) := by
  refine Met.ofW (cc := cX2_dataSymbols) (maxL := 6) (ret := (some .int)) (by decide) rfl ?_
  intro p e s m args below meth c s₁ B hml hv
  obtain ⟨eargs, hT_p0⟩ := hv
  have hx := B.exec
  have hb := B.bytes
  have hr := B.returns
  have hts := atoms_spec (ws := wsX2_dataSymbols) B.pre
  have hown : s.vm.findClass RX2 = some m.cls := findClass_of_methodNamed B.named
  have hlocks := B.notSynchronized
  refine im_Q (fun Q eQ => ?_)
  have hl := lv_entry [.ref a_p0] (n := 6) (Nat.le_of_ble_eq_true rfl)
  rw [show entryFrame m args 6 = entryFrame m ([.ref a_p0] : List Value).toArray 6 by rw [eargs], lg_entry_eq]
  generalize (lg_sl ([.ref a_p0]) ++ List.replicate (6 - (lg_sl ([.ref a_p0])).length) Slot.unset).toArray = ls at hl ⊢
  have hl : lv_has ls 6 [(0, .ref a_p0)] := hl
  rw [im_X2_dataSymbols] at h
  refine lv_iconst (v := (0 : Int32)) hx hb dX2_dataSymbols_0 (by decide) ?_
  refine lv_istore_n (lv' := [(1, .int (0 : Int32)), (0, .ref a_p0)]) hx hb dX2_dataSymbols_1 rfl hl (by decide) rfl (fun ls hl => ?_)
  refine lv_aload_n hx hb dX2_dataSymbols_2 rfl (lv_at hl 1 rfl) ?_
  refine lv_astore_n (lv' := [(2, .ref a_p0), (1, .int (0 : Int32)), (0, .ref a_p0)]) hx hb dX2_dataSymbols_3 rfl hl (by decide) rfl (fun ls hl => ?_)
  refine lv_aload_n hx hb dX2_dataSymbols_4 rfl (lv_at hl 0 rfl) ?_
  refine va_tlen hx hb hT_p0 (va_S.rf (A := fun _ => False)) (v := nI n_p0) rfl dX2_dataSymbols_5 ?_
  refine lv_istore_n (lv' := [(3, .int (nI n_p0)), (2, .ref a_p0), (1, .int (0 : Int32)), (0, .ref a_p0)]) hx hb dX2_dataSymbols_6 rfl hl (by decide) rfl (fun ls hl => ?_)
  refine lv_iconst (v := (0 : Int32)) hx hb dX2_dataSymbols_7 (by decide) ?_
  refine lv_istore (lv' := [(4, .int (0 : Int32)), (3, .int (nI n_p0)), (2, .ref a_p0), (1, .int (0 : Int32)), (0, .ref a_p0)]) hx hb dX2_dataSymbols_8 hl (by decide) rfl (fun ls hl => ?_)
  refine im_j1_u (P := fun v1 => ∀ (ls : Array Slot), lv_has ls 6 [(1, .int v1)] → W p l e (headSpec wsX2_dataSymbols rm_X2_dataSymbols).room s m args below meth c s.heap [] 0 0 Q (F0 m 33 ls [])) h (fun v1 h ls hl => ?_) (fun K2 J2 h => ?_)
  · refine lv_iload_n hx hb dX2_dataSymbols_33 rfl (lv_at hl 0 rfl) ?_
    refine lv_bipush (v := (6 : Int32)) hx hb dX2_dataSymbols_34 (by decide) ?_
    refine lv_idiv hx hb dX2_dataSymbols_36 (by decide) ?_
    refine lv_topi (fun v3 ev3 => ?_)
    replace h := im_lt_u h v3 ev3
    rw [eQ]
    exact W.iret (v := v3) hx hb hr (fun t ht hW => ⟨_, rfl, Option.some.inj h, ht⟩) (fun _ h9 => by cases h9) dX2_dataSymbols_37
  · have Lp6 : ∀ (n : Nat) (v4 : Int32) (v5 : Int32), im_X2_dataSymbols_L10 n_p0 K2 f_p0 n v4 v5 = some r → ∀ (ls : Array Slot), lv_has ls 6 [(1, .int v4), (2, .ref a_p0), (3, .int (nI n_p0)), (4, .int v5)] → W p l e (headSpec wsX2_dataSymbols rm_X2_dataSymbols).room s m args below meth c s.heap [] 0 0 Q (F0 m 10 ls []) := by
      intro n
      induction n with
      | zero => intro v4 v5 h; rw [im_X2_dataSymbols_L10] at h; cases h
      | succ n ih =>
        intro v4 v5 h ls hl
        rw [im_X2_dataSymbols_L10] at h
        refine lv_iload hx hb dX2_dataSymbols_10 (lv_at hl 3 rfl) ?_
        refine lv_iload_n hx hb dX2_dataSymbols_12 rfl (lv_at hl 2 rfl) ?_
        refine lv_icmp_ge (tgt := 33) hx hb dX2_dataSymbols_13 (by decide) (fun c13 => ?_) (fun c13 => ?_)
        · replace h := im_t c13 h
          exact J2 v4 h _ (lv_sub hl [0] rfl)
        · replace h := im_f c13 h
          refine lv_aload_n hx hb dX2_dataSymbols_16 rfl (lv_at hl 1 rfl) ?_
          refine lv_iload hx hb dX2_dataSymbols_17 (lv_at hl 3 rfl) ?_
          obtain ⟨q19, h⟩ := im_ld_u h
          refine va_ti hx hb hT_p0 (va_S.rf (A := fun _ => False)) q19 (v := .int (f_p0 v5.toNatClampNeg)) rfl dX2_dataSymbols_19 ?_
          refine lv_topi (fun v7 ev7 => ?_)
          replace h := h v7 ev7
          refine lv_istore (lv' := [(5, .int v7), (1, .int v4), (2, .ref a_p0), (3, .int (nI n_p0)), (4, .int v5)]) hx hb dX2_dataSymbols_20 hl (by decide) rfl (fun ls hl => ?_)
          refine lv_iload_n hx hb dX2_dataSymbols_22 rfl (lv_at hl 1 rfl) ?_
          refine lv_iload hx hb dX2_dataSymbols_23 (lv_at hl 0 rfl) ?_
          refine lv_iadd hx hb dX2_dataSymbols_25 ?_
          refine lv_topi (fun v8 ev8 => ?_)
          replace h := im_lt_u h v8 ev8
          refine lv_istore_n (lv' := [(1, .int v8), (5, .int v7), (2, .ref a_p0), (3, .int (nI n_p0)), (4, .int v5)]) hx hb dX2_dataSymbols_26 rfl hl (by decide) rfl (fun ls hl => ?_)
          obtain ⟨v9, ev9⟩ : ∃ y : Int32, y = (v5 + (1 : Int32)) := ⟨_, rfl⟩
          replace h := im_lt_u h v9 ev9
          refine lv_iinc (v := v9) (lv' := [(4, .int v9), (1, .int v8), (5, .int v7), (2, .ref a_p0), (3, .int (nI n_p0))]) hx hb dX2_dataSymbols_27 hl (k := 4) rfl (by rw [ev9]; rfl) (by decide) rfl (fun ls hl => ?_)
          refine lv_goto (tgt := 10) hx hb dX2_dataSymbols_30 (by decide) ?_
          exact ih v8 v9 h _ (lv_sub hl [1, 3, 4, 0] rfl)
    exact Lp6 5000 (0 : Int32) (0 : Int32) h _ (lv_sub hl [3, 2, 1, 0] rfl)
def im_X2_putFields_L27 (K9 : Int32 → (Nat → Int32) → Option ((Nat → Int32))) (n_p0 : Nat) (f_p0 : Nat → Int64) (v2 : Int32) (n_p1 : Nat) : Nat → Int32 → Int32 → (Nat → Int32) → Option ((Nat → Int32))
  | 0, _, _, _ => none
  | n + 1, v11, v12, f13 => if v12 < 0 then (K9 v11 f13) else im_ld n_p0 f_p0 v2 (fun v15 => im_lt (v15 >>> (v12.toInt64 &&& 63)) (fun v16 => im_lt v16.toInt32 (fun v17 => im_lt (v17 &&& (63 : Int32)) (fun v18 => im_st n_p1 f13 v11 v18 (fun f19 => im_lt (v11 + (1 : Int32)) (fun v20 => im_lt (v12 + (-6 : Int32)) (fun v21 => (im_X2_putFields_L27 K9 n_p0 f_p0 v2 n_p1 n v20 v21 f19))))))))
def im_X2_putFields_L5 (n_this_widths : Nat) (f_this_widths : Nat → Int32) (n_p0 : Nat) (f_p0 : Nat → Int64) (n_p1 : Nat) : Nat → Int32 → Int32 → (Nat → Int32) → Option ((Nat → Int32))
  | 0, _, _, _ => none
  | n + 1, v1, v2, f3 => if (nI n_this_widths) ≤ v2 then (some f3) else im_ld n_this_widths f_this_widths v2 (fun v5 => im_lt (v5 - (6 : Int32)) (fun v6 => im_j2 (fun (v7 : Int32) (f8 : Nat → Int32) => im_lt (v2 + (1 : Int32)) (fun v10 => (im_X2_putFields_L5 n_this_widths f_this_widths n_p0 f_p0 n_p1 n v7 v10 f8))) (fun K9 => (im_X2_putFields_L27 K9 n_p0 f_p0 v2 n_p1 5000 v1 v6 f3))))
def im_X2_putFields (n_p0 : Nat) (n_p1 : Nat) (n_this_widths : Nat) (f_p0 : Nat → Int64) (f_p1 : Nat → Int32) (f_this_widths : Nat → Int32) : Option ((Nat → Int32)) := (im_X2_putFields_L5 n_this_widths f_this_widths n_p0 f_p0 n_p1 5000 (0 : Int32) (0 : Int32) f_p1)
abbrev rm_X2_putFields : Room := { frames := 0, cells := 0, slots := 0, locals := 0 }
theorem hn_X2_putFields_X2 : ∀ w ∈ wsX20, w ∈ wsX2_putFields := by decide +kernel
theorem fl_X2_putFields_19 : Cond.fieldLink RX2 19 "BarCodes$Form" "widths" "[I" ∈ wsX2_putFields := by decide +kernel
set_option maxHeartbeats 4000000 in
set_option maxRecDepth 100000 in
theorem c_X2_putFields (l : Launch) (dC : Nat → ClassId) (dI : Nat → Nat → Nat) (cI cJ cZ : ClassId) (sz : Nat) (a_this a_this_widths a_p0 a_p1 : Nat) (i_this_kind i_this_checks i_this_symbols i_this_rowLength i_this_highestBar i_this_fourHeights i_this_barBits i_this_symbolBars i_this_checkKey : Int32) (n_p0 n_p1 n_this_widths : Nat) (f_p0 : Nat → Int64) (f_p1 : Nat → Int32) (f_this_widths : Nat → Int32) {r : (Nat → Int32)} (h : im_X2_putFields n_p0 n_p1 n_this_widths f_p0 f_p1 f_this_widths = some r) : Met l yX2_putFields wsX2_putFields rm_X2_putFields (va_Pc [.ref a_this, .ref a_p0, .ref a_p1] (fun U => U.heap.size = sz ∧ va_P (dC, dI) vwCl [(a_this, .inr (2, [.int i_this_kind, .ref a_this_widths, .int i_this_checks, .int i_this_symbols, .int i_this_rowLength, .int i_this_highestBar, .int i_this_fourHeights, .int i_this_barBits, .int i_this_symbolBars, .int i_this_checkKey])), (a_p0, .inl (cJ, n_p0, .inr (.inl f_p0))), (a_p1, .inl (cI, n_p1, .inl f_p1))] U.heap ∧ va_K (dC, dI) vwCl [(cI, .int), (cJ, .long), (cZ, .boolean)] U ∧ va_D (fun _ => True) [(a_this, .inr (2, [.int i_this_kind, .ref a_this_widths, .int i_this_checks, .int i_this_symbols, .int i_this_rowLength, .int i_this_highestBar, .int i_this_fourHeights, .int i_this_barBits, .int i_this_symbolBars, .int i_this_checkKey])), (a_p0, .inl (cJ, n_p0, .inr (.inl f_p0))), (a_p1, .inl (cI, n_p1, .inl f_p1))] ∧ va_T .int a_this_widths n_this_widths (fun j => .int (f_this_widths j)) (va_A [(a_this, .inr (2, [.int i_this_kind, .ref a_this_widths, .int i_this_checks, .int i_this_symbols, .int i_this_rowLength, .int i_this_highestBar, .int i_this_fourHeights, .int i_this_barBits, .int i_this_symbolBars, .int i_this_checkKey])), (a_p0, .inl (cJ, n_p0, .inr (.inl f_p0))), (a_p1, .inl (cI, n_p1, .inl f_p1))] sz) U U.heap)) (va_Qv (S := (Nat → Int32)) (fun u9 => u9 = r) (fun u9 t9 => va_P (dC, dI) vwCl [(a_this, .inr (2, [.int i_this_kind, .ref a_this_widths, .int i_this_checks, .int i_this_symbols, .int i_this_rowLength, .int i_this_highestBar, .int i_this_fourHeights, .int i_this_barBits, .int i_this_symbolBars, .int i_this_checkKey])), (a_p0, .inl (cJ, n_p0, .inr (.inl f_p0))), (a_p1, .inl (cI, n_p1, .inl (u9)))] t9.heap ∧ va_K (dC, dI) vwCl [(cI, .int), (cJ, .long), (cZ, .boolean)] t9 ∧ va_D (va_A [(a_this, .inr (2, [.int i_this_kind, .ref a_this_widths, .int i_this_checks, .int i_this_symbols, .int i_this_rowLength, .int i_this_highestBar, .int i_this_fourHeights, .int i_this_barBits, .int i_this_symbolBars, .int i_this_checkKey])), (a_p0, .inl (cJ, n_p0, .inr (.inl f_p0))), (a_p1, .inl (cI, n_p1, .inl f_p1))] sz) [(a_this, .inr (2, [.int i_this_kind, .ref a_this_widths, .int i_this_checks, .int i_this_symbols, .int i_this_rowLength, .int i_this_highestBar, .int i_this_fourHeights, .int i_this_barBits, .int i_this_symbolBars, .int i_this_checkKey])), (a_p0, .inl (cJ, n_p0, .inr (.inl f_p0))), (a_p1, .inl (cI, n_p1, .inl (u9)))]) (va_A [(a_this, .inr (2, [.int i_this_kind, .ref a_this_widths, .int i_this_checks, .int i_this_symbols, .int i_this_rowLength, .int i_this_highestBar, .int i_this_fourHeights, .int i_this_barBits, .int i_this_symbolBars, .int i_this_checkKey])), (a_p0, .inl (cJ, n_p0, .inr (.inl f_p0))), (a_p1, .inl (cI, n_p1, .inl f_p1))] sz)) 0 0 (va_A [(a_this, .inr (2, [.int i_this_kind, .ref a_this_widths, .int i_this_checks, .int i_this_symbols, .int i_this_rowLength, .int i_this_highestBar, .int i_this_fourHeights, .int i_this_barBits, .int i_this_symbolBars, .int i_this_checkKey])), (a_p0, .inl (cJ, n_p0, .inr (.inl f_p0))), (a_p1, .inl (cI, n_p1, .inl f_p1))] sz) := by
  refine Met.ofW (cc := cX2_putFields) (maxL := 6) (ret := none) (by decide) rfl ?_
  intro p e s m args below meth c s₁ B hml hv
  obtain ⟨eargs, hsz, hP, hK, hD0, hT_this_widths⟩ := hv
  have hx := B.exec
  have hb := B.bytes
  have hr := B.returns
  have hts := atoms_spec (ws := wsX2_putFields) B.pre
  have hown : s.vm.findClass RX2 = some m.cls := findClass_of_methodNamed B.named
  have hlocks := B.notSynchronized
  refine im_Q (fun Q eQ => ?_)
  subst hsz
  have hD := hD0.self (sz := s.heap.size)
  generalize hAe : va_A [(a_this, .inr (2, [.int i_this_kind, .ref a_this_widths, .int i_this_checks, .int i_this_symbols, .int i_this_rowLength, .int i_this_highestBar, .int i_this_fourHeights, .int i_this_barBits, .int i_this_symbolBars, .int i_this_checkKey])), (a_p0, .inl (cJ, n_p0, .inr (.inl f_p0))), (a_p1, .inl (cI, n_p1, .inl f_p1))] s.heap.size = A at hD eQ hT_this_widths
  have hA : ∀ q : Nat, s.heap.size ≤ q → A q := fun q h => by rw [← hAe]; exact Or.inr h
  have hS : va_S A s.heap s.heap [] := va_S.rf
  have hl := lv_entry [.ref a_this, .ref a_p0, .ref a_p1] (n := 6) (Nat.le_of_ble_eq_true rfl)
  rw [show entryFrame m args 6 = entryFrame m ([.ref a_this, .ref a_p0, .ref a_p1] : List Value).toArray 6 by rw [eargs], lg_entry_eq]
  generalize (lg_sl ([.ref a_this, .ref a_p0, .ref a_p1]) ++ List.replicate (6 - (lg_sl ([.ref a_this, .ref a_p0, .ref a_p1])).length) Slot.unset).toArray = ls at hl ⊢
  have hl : lv_has ls 6 [(0, .ref a_this), (1, .ref a_p0), (2, .ref a_p1)] := hl
  rw [im_X2_putFields] at h
  refine lv_iconst (v := (0 : Int32)) hx hb dX2_putFields_0 (by decide) ?_
  refine lv_istore_n (lv' := [(3, .int (0 : Int32)), (0, .ref a_this), (1, .ref a_p0), (2, .ref a_p1)]) hx hb dX2_putFields_1 rfl hl (by decide) rfl (fun ls hl => ?_)
  refine lv_iconst (v := (0 : Int32)) hx hb dX2_putFields_2 (by decide) ?_
  refine lv_istore (lv' := [(4, .int (0 : Int32)), (3, .int (0 : Int32)), (0, .ref a_this), (1, .ref a_p0), (2, .ref a_p1)]) hx hb dX2_putFields_3 hl (by decide) rfl (fun ls hl => ?_)
  have Lp4 : ∀ (n : Nat) (v1 : Int32) (v2 : Int32) (f3 : Nat → Int32), im_X2_putFields_L5 n_this_widths f_this_widths n_p0 f_p0 n_p1 n v1 v2 f3 = some r → ∀ (H : Heap) (locs : List Loc) (ls : Array Slot), va_P (dC, dI) vwCl [(a_this, .inr (2, [.int i_this_kind, .ref a_this_widths, .int i_this_checks, .int i_this_symbols, .int i_this_rowLength, .int i_this_highestBar, .int i_this_fourHeights, .int i_this_barBits, .int i_this_symbolBars, .int i_this_checkKey])), (a_p0, .inl (cJ, n_p0, .inr (.inl f_p0))), (a_p1, .inl (cI, n_p1, .inl f3))] H → va_D A [(a_this, .inr (2, [.int i_this_kind, .ref a_this_widths, .int i_this_checks, .int i_this_symbols, .int i_this_rowLength, .int i_this_highestBar, .int i_this_fourHeights, .int i_this_barBits, .int i_this_symbolBars, .int i_this_checkKey])), (a_p0, .inl (cJ, n_p0, .inr (.inl f_p0))), (a_p1, .inl (cI, n_p1, .inl f3))] → va_S A s.heap H locs → lv_has ls 6 [(0, .ref a_this), (1, .ref a_p0), (2, .ref a_p1), (3, .int v1), (4, .int v2)] → W p l e (headSpec wsX2_putFields rm_X2_putFields).room s m args below meth c H locs 0 0 Q (F0 m 5 ls []) := by
    intro n
    induction n with
    | zero => intro v1 v2 f3 h; rw [im_X2_putFields_L5] at h; cases h
    | succ n ih =>
      intro v1 v2 f3 h H locs ls hP hD hS hl
      rw [im_X2_putFields_L5] at h
      refine lv_iload hx hb dX2_putFields_5 (lv_at hl 4 rfl) ?_
      refine lv_aload_n hx hb dX2_putFields_7 rfl (lv_at hl 0 rfl) ?_
      refine va_get (D := (dC, dI)) (ci := 2) (v := .ref a_this_widths) (C := RX2) (T := TX2) (N := 10) hx hb hts hn_X2_putFields_X2 hown hK hP 0 rfl rfl 1 (by decide) (hts _ fl_X2_putFields_19) (fun _ h9 => h9) rfl dX2_putFields_8 ?_
      refine va_tlen hx hb hT_this_widths hS (v := nI n_this_widths) rfl dX2_putFields_11 ?_
      refine lv_icmp_ge (tgt := 61) hx hb dX2_putFields_12 (by decide) (fun c12 => ?_) (fun c12 => ?_)
      · replace h := im_t c12 h
        rw [eQ]
        exact W.vret hx hb hr (fun t ht hW => ⟨⟨f3, rfl, Option.some.inj h, by rw [ht]; exact hP, va_K.moved hW.alike hK, hD⟩, hS.F ht⟩) hS.2.2 dX2_putFields_61
      · replace h := im_f c12 h
        refine lv_aload_n hx hb dX2_putFields_15 rfl (lv_at hl 0 rfl) ?_
        refine va_get (D := (dC, dI)) (ci := 2) (v := .ref a_this_widths) (C := RX2) (T := TX2) (N := 10) hx hb hts hn_X2_putFields_X2 hown hK hP 0 rfl rfl 1 (by decide) (hts _ fl_X2_putFields_19) (fun _ h9 => h9) rfl dX2_putFields_16 ?_
        refine lv_iload hx hb dX2_putFields_19 (lv_at hl 4 rfl) ?_
        obtain ⟨q21, h⟩ := im_ld_u h
        refine va_ti hx hb hT_this_widths hS q21 (v := .int (f_this_widths v2.toNatClampNeg)) rfl dX2_putFields_21 ?_
        refine lv_topi (fun v5 ev5 => ?_)
        replace h := h v5 ev5
        refine lv_bipush (v := (6 : Int32)) hx hb dX2_putFields_22 (by decide) ?_
        refine lv_isub hx hb dX2_putFields_24 ?_
        refine lv_topi (fun v6 ev6 => ?_)
        replace h := im_lt_u h v6 ev6
        refine lv_istore (lv' := [(5, .int v6), (0, .ref a_this), (1, .ref a_p0), (2, .ref a_p1), (3, .int v1), (4, .int v2)]) hx hb dX2_putFields_25 hl (by decide) rfl (fun ls hl => ?_)
        refine im_j2_u (P := fun v7 f8 => ∀ (H : Heap) (locs : List Loc) (ls : Array Slot), va_P (dC, dI) vwCl [(a_this, .inr (2, [.int i_this_kind, .ref a_this_widths, .int i_this_checks, .int i_this_symbols, .int i_this_rowLength, .int i_this_highestBar, .int i_this_fourHeights, .int i_this_barBits, .int i_this_symbolBars, .int i_this_checkKey])), (a_p0, .inl (cJ, n_p0, .inr (.inl f_p0))), (a_p1, .inl (cI, n_p1, .inl f8))] H → va_D A [(a_this, .inr (2, [.int i_this_kind, .ref a_this_widths, .int i_this_checks, .int i_this_symbols, .int i_this_rowLength, .int i_this_highestBar, .int i_this_fourHeights, .int i_this_barBits, .int i_this_symbolBars, .int i_this_checkKey])), (a_p0, .inl (cJ, n_p0, .inr (.inl f_p0))), (a_p1, .inl (cI, n_p1, .inl f8))] → va_S A s.heap H locs → lv_has ls 6 [(0, .ref a_this), (1, .ref a_p0), (2, .ref a_p1), (3, .int v7), (4, .int v2)] → W p l e (headSpec wsX2_putFields rm_X2_putFields).room s m args below meth c H locs 0 0 Q (F0 m 55 ls [])) h (fun v7 f8 h H locs ls hP hD hS hl => ?_) (fun K9 J9 h => ?_)
        · obtain ⟨v10, ev10⟩ : ∃ y : Int32, y = (v2 + (1 : Int32)) := ⟨_, rfl⟩
          replace h := im_lt_u h v10 ev10
          refine lv_iinc (v := v10) (lv' := [(4, .int v10), (0, .ref a_this), (1, .ref a_p0), (2, .ref a_p1), (3, .int v7)]) hx hb dX2_putFields_55 hl (k := 4) rfl (by rw [ev10]; rfl) (by decide) rfl (fun ls hl => ?_)
          refine lv_goto (tgt := 5) hx hb dX2_putFields_58 (by decide) ?_
          exact ih v7 v10 f8 h _ _ _ hP hD hS (lv_sub hl [1, 2, 3, 4, 0] rfl)
        · have Lp14 : ∀ (n : Nat) (v11 : Int32) (v12 : Int32) (f13 : Nat → Int32), im_X2_putFields_L27 K9 n_p0 f_p0 v2 n_p1 n v11 v12 f13 = some r → ∀ (H : Heap) (locs : List Loc) (ls : Array Slot), va_P (dC, dI) vwCl [(a_this, .inr (2, [.int i_this_kind, .ref a_this_widths, .int i_this_checks, .int i_this_symbols, .int i_this_rowLength, .int i_this_highestBar, .int i_this_fourHeights, .int i_this_barBits, .int i_this_symbolBars, .int i_this_checkKey])), (a_p0, .inl (cJ, n_p0, .inr (.inl f_p0))), (a_p1, .inl (cI, n_p1, .inl f13))] H → va_D A [(a_this, .inr (2, [.int i_this_kind, .ref a_this_widths, .int i_this_checks, .int i_this_symbols, .int i_this_rowLength, .int i_this_highestBar, .int i_this_fourHeights, .int i_this_barBits, .int i_this_symbolBars, .int i_this_checkKey])), (a_p0, .inl (cJ, n_p0, .inr (.inl f_p0))), (a_p1, .inl (cI, n_p1, .inl f13))] → va_S A s.heap H locs → lv_has ls 6 [(0, .ref a_this), (1, .ref a_p0), (2, .ref a_p1), (3, .int v11), (4, .int v2), (5, .int v12)] → W p l e (headSpec wsX2_putFields rm_X2_putFields).room s m args below meth c H locs 0 0 Q (F0 m 27 ls []) := by
            intro n
            induction n with
            | zero => intro v11 v12 f13 h; rw [im_X2_putFields_L27] at h; cases h
            | succ n ih =>
              intro v11 v12 f13 h H locs ls hP hD hS hl
              rw [im_X2_putFields_L27] at h
              refine lv_iload hx hb dX2_putFields_27 (lv_at hl 5 rfl) ?_
              refine lv_if_lt (tgt := 55) hx hb dX2_putFields_29 (by decide) (fun c29 => ?_) (fun c29 => ?_)
              · replace h := im_t c29 h
                exact J9 v11 f13 h _ _ _ hP hD hS (lv_sub hl [0, 1, 2, 3, 4] rfl)
              · replace h := im_f c29 h
                refine lv_aload_n hx hb dX2_putFields_32 rfl (lv_at hl 2 rfl) ?_
                refine lv_iload_n hx hb dX2_putFields_33 rfl (lv_at hl 3 rfl) ?_
                refine lv_aload_n hx hb dX2_putFields_34 rfl (lv_at hl 1 rfl) ?_
                refine lv_iload hx hb dX2_putFields_35 (lv_at hl 4 rfl) ?_
                obtain ⟨q37, h⟩ := im_ld_u h
                refine va_lald hx hb hK hP 1 1 rfl rfl q37 dX2_putFields_37 ?_
                refine lv_topl (fun v15 ev15 => ?_)
                replace h := h v15 ev15
                refine lv_iload hx hb dX2_putFields_38 (lv_at hl 5 rfl) ?_
                refine lv_lshr hx hb dX2_putFields_40 rfl ?_
                refine lv_topl (fun v16 ev16 => ?_)
                replace h := im_lt_u h v16 ev16
                refine lv_l2i hx hb dX2_putFields_41 rfl ?_
                refine lv_topi (fun v17 ev17 => ?_)
                replace h := im_lt_u h v17 ev17
                refine lv_bipush (v := (63 : Int32)) hx hb dX2_putFields_42 (by decide) ?_
                refine lv_iand hx hb dX2_putFields_44 ?_
                refine lv_topi (fun v18 ev18 => ?_)
                replace h := im_lt_u h v18 ev18
                obtain ⟨q45, h⟩ := im_st_u h
                refine va_iast hx hb hK hP hD hS 2 0 rfl rfl q45 dX2_putFields_45 (fun H locs hP hD hS => ?_)
                obtain ⟨f19, ef19⟩ : ∃ g : Nat → Int32, g = upd f13 v11.toNatClampNeg v18 := ⟨_, rfl⟩
                replace h := h f19 ef19
                rw [← ef19] at hP hD
                have hP : va_P (dC, dI) vwCl [(a_this, .inr (2, [.int i_this_kind, .ref a_this_widths, .int i_this_checks, .int i_this_symbols, .int i_this_rowLength, .int i_this_highestBar, .int i_this_fourHeights, .int i_this_barBits, .int i_this_symbolBars, .int i_this_checkKey])), (a_p0, .inl (cJ, n_p0, .inr (.inl f_p0))), (a_p1, .inl (cI, n_p1, .inl f19))] H := hP
                have hD : va_D A [(a_this, .inr (2, [.int i_this_kind, .ref a_this_widths, .int i_this_checks, .int i_this_symbols, .int i_this_rowLength, .int i_this_highestBar, .int i_this_fourHeights, .int i_this_barBits, .int i_this_symbolBars, .int i_this_checkKey])), (a_p0, .inl (cJ, n_p0, .inr (.inl f_p0))), (a_p1, .inl (cI, n_p1, .inl f19))] := hD
                obtain ⟨v20, ev20⟩ : ∃ y : Int32, y = (v11 + (1 : Int32)) := ⟨_, rfl⟩
                replace h := im_lt_u h v20 ev20
                refine lv_iinc (v := v20) (lv' := [(3, .int v20), (0, .ref a_this), (1, .ref a_p0), (2, .ref a_p1), (4, .int v2), (5, .int v12)]) hx hb dX2_putFields_46 hl (k := 3) rfl (by rw [ev20]; rfl) (by decide) rfl (fun ls hl => ?_)
                obtain ⟨v21, ev21⟩ : ∃ y : Int32, y = (v12 + (-6 : Int32)) := ⟨_, rfl⟩
                replace h := im_lt_u h v21 ev21
                refine lv_iinc (v := v21) (lv' := [(5, .int v21), (3, .int v20), (0, .ref a_this), (1, .ref a_p0), (2, .ref a_p1), (4, .int v2)]) hx hb dX2_putFields_49 hl (k := 5) rfl (by rw [ev21]; rfl) (by decide) rfl (fun ls hl => ?_)
                refine lv_goto (tgt := 27) hx hb dX2_putFields_52 (by decide) ?_
                exact ih v20 v21 f19 h _ _ _ hP hD hS (lv_sub hl [2, 3, 4, 1, 5, 0] rfl)
          exact Lp14 5000 v1 v6 f3 h _ _ _ hP hD hS (lv_sub hl [1, 2, 3, 4, 5, 0] rfl)
  exact Lp4 5000 (0 : Int32) (0 : Int32) f_p1 h _ _ _ hP hD hS (lv_sub hl [2, 3, 4, 1, 0] rfl)
def im_X2_takeFields_L21 (n_this_widths : Nat) (f_this_widths : Nat → Int32) (v2 : Int32) (K7 : Int32 → Int64 → Option ((Nat → Int64))) (n_p0 : Nat) (f_p0 : Nat → Int32) : Nat → Int32 → Int64 → Int32 → Option ((Nat → Int64))
  | 0, _, _, _ => none
  | n + 1, v10, v11, v12 => im_ld n_this_widths f_this_widths v2 (fun v14 => if v14 ≤ v12 then (K7 v10 v11) else im_lt (v11 <<< ((6 : Int32).toInt64 &&& 63)) (fun v15 => im_ld n_p0 f_p0 v10 (fun v16 => im_lt v16.toInt64 (fun v17 => im_lt (v15 ||| v17) (fun v18 => im_lt (v10 + (1 : Int32)) (fun v19 => im_lt (v12 + (6 : Int32)) (fun v20 => (im_X2_takeFields_L21 n_this_widths f_this_widths v2 K7 n_p0 f_p0 n v19 v18 v20))))))))
def im_X2_takeFields_L5 (n_this_widths : Nat) (n_p1 : Nat) (f_this_widths : Nat → Int32) (n_p0 : Nat) (f_p0 : Nat → Int32) : Nat → Int32 → Int32 → (Nat → Int64) → Option ((Nat → Int64))
  | 0, _, _, _ => none
  | n + 1, v1, v2, f3 => if (nI n_this_widths) ≤ v2 then (some f3) else im_j2 (fun (v5 : Int32) (v6 : Int64) => im_stL n_p1 f3 v2 v6 (fun f8 => im_lt (v2 + (1 : Int32)) (fun v9 => (im_X2_takeFields_L5 n_this_widths n_p1 f_this_widths n_p0 f_p0 n v5 v9 f8)))) (fun K7 => (im_X2_takeFields_L21 n_this_widths f_this_widths v2 K7 n_p0 f_p0 5000 v1 (0 : Int64) (0 : Int32)))
def im_X2_takeFields (n_p0 : Nat) (n_p1 : Nat) (n_this_widths : Nat) (f_p0 : Nat → Int32) (f_p1 : Nat → Int64) (f_this_widths : Nat → Int32) : Option ((Nat → Int64)) := (im_X2_takeFields_L5 n_this_widths n_p1 f_this_widths n_p0 f_p0 5000 (0 : Int32) (0 : Int32) f_p1)
abbrev rm_X2_takeFields : Room := { frames := 0, cells := 0, slots := 0, locals := 0 }
theorem hn_X2_takeFields_X2 : ∀ w ∈ wsX20, w ∈ wsX2_takeFields := by decide +kernel
theorem fl_X2_takeFields_19 : Cond.fieldLink RX2 19 "BarCodes$Form" "widths" "[I" ∈ wsX2_takeFields := by decide +kernel
set_option maxHeartbeats 4000000 in
set_option maxRecDepth 100000 in
theorem c_X2_takeFields (l : Launch) (dC : Nat → ClassId) (dI : Nat → Nat → Nat) (cI cJ cZ : ClassId) (sz : Nat) (a_this a_this_widths a_p0 a_p1 : Nat) (i_this_kind i_this_checks i_this_symbols i_this_rowLength i_this_highestBar i_this_fourHeights i_this_barBits i_this_symbolBars i_this_checkKey : Int32) (n_p0 n_p1 n_this_widths : Nat) (f_p0 : Nat → Int32) (f_p1 : Nat → Int64) (f_this_widths : Nat → Int32) {r : (Nat → Int64)} (h : im_X2_takeFields n_p0 n_p1 n_this_widths f_p0 f_p1 f_this_widths = some r) : Met l yX2_takeFields wsX2_takeFields rm_X2_takeFields (va_Pc [.ref a_this, .ref a_p0, .ref a_p1] (fun U => U.heap.size = sz ∧ va_P (dC, dI) vwCl [(a_this, .inr (2, [.int i_this_kind, .ref a_this_widths, .int i_this_checks, .int i_this_symbols, .int i_this_rowLength, .int i_this_highestBar, .int i_this_fourHeights, .int i_this_barBits, .int i_this_symbolBars, .int i_this_checkKey])), (a_p0, .inl (cI, n_p0, .inl f_p0)), (a_p1, .inl (cJ, n_p1, .inr (.inl f_p1)))] U.heap ∧ va_K (dC, dI) vwCl [(cI, .int), (cJ, .long), (cZ, .boolean)] U ∧ va_D (fun _ => True) [(a_this, .inr (2, [.int i_this_kind, .ref a_this_widths, .int i_this_checks, .int i_this_symbols, .int i_this_rowLength, .int i_this_highestBar, .int i_this_fourHeights, .int i_this_barBits, .int i_this_symbolBars, .int i_this_checkKey])), (a_p0, .inl (cI, n_p0, .inl f_p0)), (a_p1, .inl (cJ, n_p1, .inr (.inl f_p1)))] ∧ va_T .int a_this_widths n_this_widths (fun j => .int (f_this_widths j)) (va_A [(a_this, .inr (2, [.int i_this_kind, .ref a_this_widths, .int i_this_checks, .int i_this_symbols, .int i_this_rowLength, .int i_this_highestBar, .int i_this_fourHeights, .int i_this_barBits, .int i_this_symbolBars, .int i_this_checkKey])), (a_p0, .inl (cI, n_p0, .inl f_p0)), (a_p1, .inl (cJ, n_p1, .inr (.inl f_p1)))] sz) U U.heap)) (va_Qv (S := (Nat → Int64)) (fun u9 => u9 = r) (fun u9 t9 => va_P (dC, dI) vwCl [(a_this, .inr (2, [.int i_this_kind, .ref a_this_widths, .int i_this_checks, .int i_this_symbols, .int i_this_rowLength, .int i_this_highestBar, .int i_this_fourHeights, .int i_this_barBits, .int i_this_symbolBars, .int i_this_checkKey])), (a_p0, .inl (cI, n_p0, .inl f_p0)), (a_p1, .inl (cJ, n_p1, .inr (.inl (u9))))] t9.heap ∧ va_K (dC, dI) vwCl [(cI, .int), (cJ, .long), (cZ, .boolean)] t9 ∧ va_D (va_A [(a_this, .inr (2, [.int i_this_kind, .ref a_this_widths, .int i_this_checks, .int i_this_symbols, .int i_this_rowLength, .int i_this_highestBar, .int i_this_fourHeights, .int i_this_barBits, .int i_this_symbolBars, .int i_this_checkKey])), (a_p0, .inl (cI, n_p0, .inl f_p0)), (a_p1, .inl (cJ, n_p1, .inr (.inl f_p1)))] sz) [(a_this, .inr (2, [.int i_this_kind, .ref a_this_widths, .int i_this_checks, .int i_this_symbols, .int i_this_rowLength, .int i_this_highestBar, .int i_this_fourHeights, .int i_this_barBits, .int i_this_symbolBars, .int i_this_checkKey])), (a_p0, .inl (cI, n_p0, .inl f_p0)), (a_p1, .inl (cJ, n_p1, .inr (.inl (u9))))]) (va_A [(a_this, .inr (2, [.int i_this_kind, .ref a_this_widths, .int i_this_checks, .int i_this_symbols, .int i_this_rowLength, .int i_this_highestBar, .int i_this_fourHeights, .int i_this_barBits, .int i_this_symbolBars, .int i_this_checkKey])), (a_p0, .inl (cI, n_p0, .inl f_p0)), (a_p1, .inl (cJ, n_p1, .inr (.inl f_p1)))] sz)) 0 0 (va_A [(a_this, .inr (2, [.int i_this_kind, .ref a_this_widths, .int i_this_checks, .int i_this_symbols, .int i_this_rowLength, .int i_this_highestBar, .int i_this_fourHeights, .int i_this_barBits, .int i_this_symbolBars, .int i_this_checkKey])), (a_p0, .inl (cI, n_p0, .inl f_p0)), (a_p1, .inl (cJ, n_p1, .inr (.inl f_p1)))] sz) := by
  refine Met.ofW (cc := cX2_takeFields) (maxL := 8) (ret := none) (by decide) rfl ?_
  intro p e s m args below meth c s₁ B hml hv
  obtain ⟨eargs, hsz, hP, hK, hD0, hT_this_widths⟩ := hv
  have hx := B.exec
  have hb := B.bytes
  have hr := B.returns
  have hts := atoms_spec (ws := wsX2_takeFields) B.pre
  have hown : s.vm.findClass RX2 = some m.cls := findClass_of_methodNamed B.named
  have hlocks := B.notSynchronized
  refine im_Q (fun Q eQ => ?_)
  subst hsz
  have hD := hD0.self (sz := s.heap.size)
  generalize hAe : va_A [(a_this, .inr (2, [.int i_this_kind, .ref a_this_widths, .int i_this_checks, .int i_this_symbols, .int i_this_rowLength, .int i_this_highestBar, .int i_this_fourHeights, .int i_this_barBits, .int i_this_symbolBars, .int i_this_checkKey])), (a_p0, .inl (cI, n_p0, .inl f_p0)), (a_p1, .inl (cJ, n_p1, .inr (.inl f_p1)))] s.heap.size = A at hD eQ hT_this_widths
  have hA : ∀ q : Nat, s.heap.size ≤ q → A q := fun q h => by rw [← hAe]; exact Or.inr h
  have hS : va_S A s.heap s.heap [] := va_S.rf
  have hl := lv_entry [.ref a_this, .ref a_p0, .ref a_p1] (n := 8) (Nat.le_of_ble_eq_true rfl)
  rw [show entryFrame m args 8 = entryFrame m ([.ref a_this, .ref a_p0, .ref a_p1] : List Value).toArray 8 by rw [eargs], lg_entry_eq]
  generalize (lg_sl ([.ref a_this, .ref a_p0, .ref a_p1]) ++ List.replicate (8 - (lg_sl ([.ref a_this, .ref a_p0, .ref a_p1])).length) Slot.unset).toArray = ls at hl ⊢
  have hl : lv_has ls 8 [(0, .ref a_this), (1, .ref a_p0), (2, .ref a_p1)] := hl
  rw [im_X2_takeFields] at h
  refine lv_iconst (v := (0 : Int32)) hx hb dX2_takeFields_0 (by decide) ?_
  refine lv_istore_n (lv' := [(3, .int (0 : Int32)), (0, .ref a_this), (1, .ref a_p0), (2, .ref a_p1)]) hx hb dX2_takeFields_1 rfl hl (by decide) rfl (fun ls hl => ?_)
  refine lv_iconst (v := (0 : Int32)) hx hb dX2_takeFields_2 (by decide) ?_
  refine lv_istore (lv' := [(4, .int (0 : Int32)), (3, .int (0 : Int32)), (0, .ref a_this), (1, .ref a_p0), (2, .ref a_p1)]) hx hb dX2_takeFields_3 hl (by decide) rfl (fun ls hl => ?_)
  have Lp4 : ∀ (n : Nat) (v1 : Int32) (v2 : Int32) (f3 : Nat → Int64), im_X2_takeFields_L5 n_this_widths n_p1 f_this_widths n_p0 f_p0 n v1 v2 f3 = some r → ∀ (H : Heap) (locs : List Loc) (ls : Array Slot), va_P (dC, dI) vwCl [(a_this, .inr (2, [.int i_this_kind, .ref a_this_widths, .int i_this_checks, .int i_this_symbols, .int i_this_rowLength, .int i_this_highestBar, .int i_this_fourHeights, .int i_this_barBits, .int i_this_symbolBars, .int i_this_checkKey])), (a_p0, .inl (cI, n_p0, .inl f_p0)), (a_p1, .inl (cJ, n_p1, .inr (.inl f3)))] H → va_D A [(a_this, .inr (2, [.int i_this_kind, .ref a_this_widths, .int i_this_checks, .int i_this_symbols, .int i_this_rowLength, .int i_this_highestBar, .int i_this_fourHeights, .int i_this_barBits, .int i_this_symbolBars, .int i_this_checkKey])), (a_p0, .inl (cI, n_p0, .inl f_p0)), (a_p1, .inl (cJ, n_p1, .inr (.inl f3)))] → va_S A s.heap H locs → lv_has ls 8 [(0, .ref a_this), (1, .ref a_p0), (2, .ref a_p1), (3, .int v1), (4, .int v2)] → W p l e (headSpec wsX2_takeFields rm_X2_takeFields).room s m args below meth c H locs 0 0 Q (F0 m 5 ls []) := by
    intro n
    induction n with
    | zero => intro v1 v2 f3 h; rw [im_X2_takeFields_L5] at h; cases h
    | succ n ih =>
      intro v1 v2 f3 h H locs ls hP hD hS hl
      rw [im_X2_takeFields_L5] at h
      refine lv_iload hx hb dX2_takeFields_5 (lv_at hl 4 rfl) ?_
      refine lv_aload_n hx hb dX2_takeFields_7 rfl (lv_at hl 0 rfl) ?_
      refine va_get (D := (dC, dI)) (ci := 2) (v := .ref a_this_widths) (C := RX2) (T := TX2) (N := 10) hx hb hts hn_X2_takeFields_X2 hown hK hP 0 rfl rfl 1 (by decide) (hts _ fl_X2_takeFields_19) (fun _ h9 => h9) rfl dX2_takeFields_8 ?_
      refine va_tlen hx hb hT_this_widths hS (v := nI n_this_widths) rfl dX2_takeFields_11 ?_
      refine lv_icmp_ge (tgt := 66) hx hb dX2_takeFields_12 (by decide) (fun c12 => ?_) (fun c12 => ?_)
      · replace h := im_t c12 h
        rw [eQ]
        exact W.vret hx hb hr (fun t ht hW => ⟨⟨f3, rfl, Option.some.inj h, by rw [ht]; exact hP, va_K.moved hW.alike hK, hD⟩, hS.F ht⟩) hS.2.2 dX2_takeFields_66
      · replace h := im_f c12 h
        refine lv_lconst (v := (0 : Int64)) hx hb dX2_takeFields_15 (by decide) ?_
        refine lv_lstore (lv' := [(5, .long (0 : Int64)), (0, .ref a_this), (1, .ref a_p0), (2, .ref a_p1), (3, .int v1), (4, .int v2)]) hx hb dX2_takeFields_16 hl (by decide) rfl (fun ls hl => ?_)
        refine lv_iconst (v := (0 : Int32)) hx hb dX2_takeFields_18 (by decide) ?_
        refine lv_istore (lv' := [(7, .int (0 : Int32)), (5, .long (0 : Int64)), (0, .ref a_this), (1, .ref a_p0), (2, .ref a_p1), (3, .int v1), (4, .int v2)]) hx hb dX2_takeFields_19 hl (by decide) rfl (fun ls hl => ?_)
        refine im_j2_u (P := fun v5 v6 => ∀ (H : Heap) (locs : List Loc) (ls : Array Slot), va_P (dC, dI) vwCl [(a_this, .inr (2, [.int i_this_kind, .ref a_this_widths, .int i_this_checks, .int i_this_symbols, .int i_this_rowLength, .int i_this_highestBar, .int i_this_fourHeights, .int i_this_barBits, .int i_this_symbolBars, .int i_this_checkKey])), (a_p0, .inl (cI, n_p0, .inl f_p0)), (a_p1, .inl (cJ, n_p1, .inr (.inl f3)))] H → va_D A [(a_this, .inr (2, [.int i_this_kind, .ref a_this_widths, .int i_this_checks, .int i_this_symbols, .int i_this_rowLength, .int i_this_highestBar, .int i_this_fourHeights, .int i_this_barBits, .int i_this_symbolBars, .int i_this_checkKey])), (a_p0, .inl (cI, n_p0, .inl f_p0)), (a_p1, .inl (cJ, n_p1, .inr (.inl f3)))] → va_S A s.heap H locs → lv_has ls 8 [(0, .ref a_this), (1, .ref a_p0), (2, .ref a_p1), (3, .int v5), (4, .int v2), (5, .long v6)] → W p l e (headSpec wsX2_takeFields rm_X2_takeFields).room s m args below meth c H locs 0 0 Q (F0 m 54 ls [])) h (fun v5 v6 h H locs ls hP hD hS hl => ?_) (fun K7 J7 h => ?_)
        · refine lv_aload_n hx hb dX2_takeFields_54 rfl (lv_at hl 2 rfl) ?_
          refine lv_iload hx hb dX2_takeFields_55 (lv_at hl 4 rfl) ?_
          refine lv_lload hx hb dX2_takeFields_57 (lv_at hl 5 rfl) ?_
          obtain ⟨q59, h⟩ := im_stL_u h
          refine va_last hx hb hK hP hD hS 2 1 rfl rfl q59 dX2_takeFields_59 (fun H locs hP hD hS => ?_)
          obtain ⟨f8, ef8⟩ : ∃ g : Nat → Int64, g = vp_updL f3 v2.toNatClampNeg v6 := ⟨_, rfl⟩
          replace h := h f8 ef8
          rw [← ef8] at hP hD
          have hP : va_P (dC, dI) vwCl [(a_this, .inr (2, [.int i_this_kind, .ref a_this_widths, .int i_this_checks, .int i_this_symbols, .int i_this_rowLength, .int i_this_highestBar, .int i_this_fourHeights, .int i_this_barBits, .int i_this_symbolBars, .int i_this_checkKey])), (a_p0, .inl (cI, n_p0, .inl f_p0)), (a_p1, .inl (cJ, n_p1, .inr (.inl f8)))] H := hP
          have hD : va_D A [(a_this, .inr (2, [.int i_this_kind, .ref a_this_widths, .int i_this_checks, .int i_this_symbols, .int i_this_rowLength, .int i_this_highestBar, .int i_this_fourHeights, .int i_this_barBits, .int i_this_symbolBars, .int i_this_checkKey])), (a_p0, .inl (cI, n_p0, .inl f_p0)), (a_p1, .inl (cJ, n_p1, .inr (.inl f8)))] := hD
          obtain ⟨v9, ev9⟩ : ∃ y : Int32, y = (v2 + (1 : Int32)) := ⟨_, rfl⟩
          replace h := im_lt_u h v9 ev9
          refine lv_iinc (v := v9) (lv' := [(4, .int v9), (0, .ref a_this), (1, .ref a_p0), (2, .ref a_p1), (3, .int v5), (5, .long v6)]) hx hb dX2_takeFields_60 hl (k := 4) rfl (by rw [ev9]; rfl) (by decide) rfl (fun ls hl => ?_)
          refine lv_goto (tgt := 5) hx hb dX2_takeFields_63 (by decide) ?_
          exact ih v5 v9 f8 h _ _ _ hP hD hS (lv_sub hl [1, 2, 3, 4, 0] rfl)
        · have Lp13 : ∀ (n : Nat) (v10 : Int32) (v11 : Int64) (v12 : Int32), im_X2_takeFields_L21 n_this_widths f_this_widths v2 K7 n_p0 f_p0 n v10 v11 v12 = some r → ∀ (H : Heap) (locs : List Loc) (ls : Array Slot), va_P (dC, dI) vwCl [(a_this, .inr (2, [.int i_this_kind, .ref a_this_widths, .int i_this_checks, .int i_this_symbols, .int i_this_rowLength, .int i_this_highestBar, .int i_this_fourHeights, .int i_this_barBits, .int i_this_symbolBars, .int i_this_checkKey])), (a_p0, .inl (cI, n_p0, .inl f_p0)), (a_p1, .inl (cJ, n_p1, .inr (.inl f3)))] H → va_D A [(a_this, .inr (2, [.int i_this_kind, .ref a_this_widths, .int i_this_checks, .int i_this_symbols, .int i_this_rowLength, .int i_this_highestBar, .int i_this_fourHeights, .int i_this_barBits, .int i_this_symbolBars, .int i_this_checkKey])), (a_p0, .inl (cI, n_p0, .inl f_p0)), (a_p1, .inl (cJ, n_p1, .inr (.inl f3)))] → va_S A s.heap H locs → lv_has ls 8 [(0, .ref a_this), (1, .ref a_p0), (2, .ref a_p1), (3, .int v10), (4, .int v2), (5, .long v11), (7, .int v12)] → W p l e (headSpec wsX2_takeFields rm_X2_takeFields).room s m args below meth c H locs 0 0 Q (F0 m 21 ls []) := by
            intro n
            induction n with
            | zero => intro v10 v11 v12 h; rw [im_X2_takeFields_L21] at h; cases h
            | succ n ih =>
              intro v10 v11 v12 h H locs ls hP hD hS hl
              rw [im_X2_takeFields_L21] at h
              refine lv_iload hx hb dX2_takeFields_21 (lv_at hl 6 rfl) ?_
              refine lv_aload_n hx hb dX2_takeFields_23 rfl (lv_at hl 0 rfl) ?_
              refine va_get (D := (dC, dI)) (ci := 2) (v := .ref a_this_widths) (C := RX2) (T := TX2) (N := 10) hx hb hts hn_X2_takeFields_X2 hown hK hP 0 rfl rfl 1 (by decide) (hts _ fl_X2_takeFields_19) (fun _ h9 => h9) rfl dX2_takeFields_24 ?_
              refine lv_iload hx hb dX2_takeFields_27 (lv_at hl 4 rfl) ?_
              obtain ⟨q29, h⟩ := im_ld_u h
              refine va_ti hx hb hT_this_widths hS q29 (v := .int (f_this_widths v2.toNatClampNeg)) rfl dX2_takeFields_29 ?_
              refine lv_topi (fun v14 ev14 => ?_)
              replace h := h v14 ev14
              refine lv_icmp_ge (tgt := 54) hx hb dX2_takeFields_30 (by decide) (fun c30 => ?_) (fun c30 => ?_)
              · replace h := im_t c30 h
                exact J7 v10 v11 h _ _ _ hP hD hS (lv_sub hl [0, 1, 2, 3, 4, 5] rfl)
              · replace h := im_f c30 h
                refine lv_lload hx hb dX2_takeFields_33 (lv_at hl 5 rfl) ?_
                refine lv_bipush (v := (6 : Int32)) hx hb dX2_takeFields_35 (by decide) ?_
                refine lv_lshl hx hb dX2_takeFields_37 rfl ?_
                refine lv_topl (fun v15 ev15 => ?_)
                replace h := im_lt_u h v15 ev15
                refine lv_aload_n hx hb dX2_takeFields_38 rfl (lv_at hl 1 rfl) ?_
                refine lv_iload_n hx hb dX2_takeFields_39 rfl (lv_at hl 3 rfl) ?_
                obtain ⟨q40, h⟩ := im_ld_u h
                refine va_iald hx hb hK hP 1 0 rfl rfl q40 dX2_takeFields_40 ?_
                refine lv_topi (fun v16 ev16 => ?_)
                replace h := h v16 ev16
                refine lv_i2l hx hb dX2_takeFields_41 rfl ?_
                refine lv_topl (fun v17 ev17 => ?_)
                replace h := im_lt_u h v17 ev17
                refine lv_lor hx hb dX2_takeFields_42 ?_
                refine lv_topl (fun v18 ev18 => ?_)
                replace h := im_lt_u h v18 ev18
                refine lv_lstore (lv' := [(5, .long v18), (0, .ref a_this), (1, .ref a_p0), (2, .ref a_p1), (3, .int v10), (4, .int v2), (7, .int v12)]) hx hb dX2_takeFields_43 hl (by decide) rfl (fun ls hl => ?_)
                obtain ⟨v19, ev19⟩ : ∃ y : Int32, y = (v10 + (1 : Int32)) := ⟨_, rfl⟩
                replace h := im_lt_u h v19 ev19
                refine lv_iinc (v := v19) (lv' := [(3, .int v19), (5, .long v18), (0, .ref a_this), (1, .ref a_p0), (2, .ref a_p1), (4, .int v2), (7, .int v12)]) hx hb dX2_takeFields_45 hl (k := 4) rfl (by rw [ev19]; rfl) (by decide) rfl (fun ls hl => ?_)
                obtain ⟨v20, ev20⟩ : ∃ y : Int32, y = (v12 + (6 : Int32)) := ⟨_, rfl⟩
                replace h := im_lt_u h v20 ev20
                refine lv_iinc (v := v20) (lv' := [(7, .int v20), (3, .int v19), (5, .long v18), (0, .ref a_this), (1, .ref a_p0), (2, .ref a_p1), (4, .int v2)]) hx hb dX2_takeFields_48 hl (k := 6) rfl (by rw [ev20]; rfl) (by decide) rfl (fun ls hl => ?_)
                refine lv_goto (tgt := 21) hx hb dX2_takeFields_51 (by decide) ?_
                exact ih v19 v18 v20 h _ _ _ hP hD hS (lv_sub hl [3, 4, 5, 1, 6, 2, 0] rfl)
          exact Lp13 5000 v1 (0 : Int64) (0 : Int32) h _ _ _ hP hD hS (lv_sub hl [2, 3, 4, 5, 6, 1, 0] rfl)
  exact Lp4 5000 (0 : Int32) (0 : Int32) f_p1 h _ _ _ hP hD hS (lv_sub hl [2, 3, 4, 1, 0] rfl)
def im_X2_frameAt (x0 : Int32) (i_this_kind : Int32) (i_this_rowLength : Int32) (i_this_fourHeights : Int32) (n_st_BarCodes_Form_FOUR_HEIGHT_ENDS : Nat) (n_st_BarCodes_Form_TAG_ENDS : Nat) (f_st_BarCodes_Form_FOUR_HEIGHT_ENDS : Nat → Int32) (f_st_BarCodes_Form_TAG_ENDS : Nat → Int32) : Option (Int32) := if i_this_kind = (2 : Int32) then im_b1 (im_X3_frameAt x0) (fun v11 => (some v11)) else if i_this_fourHeights = 0 then if (2 : Int32) ≤ x0 then im_lt (i_this_rowLength - (2 : Int32)) (fun v1 => if v1 ≤ x0 then im_lt ((2 : Int32) + x0) (fun v2 => im_lt (v2 - v1) (fun v3 => im_ld n_st_BarCodes_Form_TAG_ENDS f_st_BarCodes_Form_TAG_ENDS v3 (fun v4 => (some v4)))) else (some (-1 : Int32))) else im_ld n_st_BarCodes_Form_TAG_ENDS f_st_BarCodes_Form_TAG_ENDS x0 (fun v5 => (some v5)) else if (2 : Int32) ≤ x0 then im_lt (i_this_rowLength - (2 : Int32)) (fun v6 => if v6 ≤ x0 then im_lt ((2 : Int32) + x0) (fun v7 => im_lt (v7 - v6) (fun v8 => im_ld n_st_BarCodes_Form_FOUR_HEIGHT_ENDS f_st_BarCodes_Form_FOUR_HEIGHT_ENDS v8 (fun v9 => (some v9)))) else (some (-1 : Int32))) else im_ld n_st_BarCodes_Form_FOUR_HEIGHT_ENDS f_st_BarCodes_Form_FOUR_HEIGHT_ENDS x0 (fun v10 => (some v10))
abbrev rm_X2_frameAt : Room := { frames := 1, cells := 0, slots := 0, locals := 22 }
theorem hn_X2_frameAt_X2 : ∀ w ∈ wsX20, w ∈ wsX2_frameAt := by decide +kernel
theorem fl_X2_frameAt_11 : Cond.fieldLink RX2 11 "BarCodes$Form" "kind" "I" ∈ wsX2_frameAt := by decide +kernel
theorem fl_X2_frameAt_37 : Cond.fieldLink RX2 37 "BarCodes$Form" "fourHeights" "Z" ∈ wsX2_frameAt := by decide +kernel
theorem fl_X2_frameAt_101 : Cond.fieldLink RX2 101 "BarCodes$Form" "TAG_ENDS" "[I" ∈ wsX2_frameAt := by decide +kernel
theorem fl_X2_frameAt_52 : Cond.fieldLink RX2 52 "BarCodes$Form" "rowLength" "I" ∈ wsX2_frameAt := by decide +kernel
theorem fl_X2_frameAt_98 : Cond.fieldLink RX2 98 "BarCodes$Form" "FOUR_HEIGHT_ENDS" "[I" ∈ wsX2_frameAt := by decide +kernel
set_option maxHeartbeats 4000000 in
set_option maxRecDepth 100000 in
theorem c_X2_frameAt (l : Launch) (dC : Nat → ClassId) (dI : Nat → Nat → Nat) (cI cJ cZ : ClassId) (a_this a_this_widths a_st_BarCodes_Form_FOUR_HEIGHT_ENDS a_st_BarCodes_Form_TAG_ENDS : Nat) (i_this_kind i_this_checks i_this_symbols i_this_rowLength i_this_highestBar i_this_fourHeights i_this_barBits i_this_symbolBars i_this_checkKey : Int32) (n_st_BarCodes_Form_FOUR_HEIGHT_ENDS n_st_BarCodes_Form_TAG_ENDS : Nat) (f_st_BarCodes_Form_FOUR_HEIGHT_ENDS : Nat → Int32) (f_st_BarCodes_Form_TAG_ENDS : Nat → Int32) (x0 : Int32) {r : Int32} (h : im_X2_frameAt x0 i_this_kind i_this_rowLength i_this_fourHeights n_st_BarCodes_Form_FOUR_HEIGHT_ENDS n_st_BarCodes_Form_TAG_ENDS f_st_BarCodes_Form_FOUR_HEIGHT_ENDS f_st_BarCodes_Form_TAG_ENDS = some r) : Met l yX2_frameAt wsX2_frameAt rm_X2_frameAt (va_Pc [.ref a_this, .int x0] (fun U => va_P (dC, dI) vwCl [(a_this, .inr (2, [.int i_this_kind, .ref a_this_widths, .int i_this_checks, .int i_this_symbols, .int i_this_rowLength, .int i_this_highestBar, .int i_this_fourHeights, .int i_this_barBits, .int i_this_symbolBars, .int i_this_checkKey]))] U.heap ∧ va_K (dC, dI) vwCl [(cI, .int), (cJ, .long), (cZ, .boolean)] U ∧ va_T .int a_st_BarCodes_Form_FOUR_HEIGHT_ENDS n_st_BarCodes_Form_FOUR_HEIGHT_ENDS (fun j => .int (f_st_BarCodes_Form_FOUR_HEIGHT_ENDS j)) (fun _ => False) U U.heap ∧ va_T .int a_st_BarCodes_Form_TAG_ENDS n_st_BarCodes_Form_TAG_ENDS (fun j => .int (f_st_BarCodes_Form_TAG_ENDS j)) (fun _ => False) U U.heap ∧ va_Z "BarCodes$Form" "FOUR_HEIGHT_ENDS" "[I" (.ref a_st_BarCodes_Form_FOUR_HEIGHT_ENDS) (fun _ => False) U U.heap ∧ va_Z "BarCodes$Form" "TAG_ENDS" "[I" (.ref a_st_BarCodes_Form_TAG_ENDS) (fun _ => False) U U.heap)) (vp_Si (fun r9 => r9 = r)) 0 0 (fun _ => False) := by
  refine Met.ofW (cc := cX2_frameAt) (maxL := 4) (ret := (some .int)) (by decide) rfl ?_
  intro p e s m args below meth c s₁ B hml hv
  obtain ⟨eargs, hP, hK, hT_st_BarCodes_Form_FOUR_HEIGHT_ENDS, hT_st_BarCodes_Form_TAG_ENDS, hZ_st_BarCodes_Form_FOUR_HEIGHT_ENDS, hZ_st_BarCodes_Form_TAG_ENDS⟩ := hv
  have hx := B.exec
  have hb := B.bytes
  have hr := B.returns
  have hts := atoms_spec (ws := wsX2_frameAt) B.pre
  have hown : s.vm.findClass RX2 = some m.cls := findClass_of_methodNamed B.named
  have hlocks := B.notSynchronized
  refine im_Q (fun Q eQ => ?_)
  have hl := lv_entry [.ref a_this, .int x0] (n := 4) (Nat.le_of_ble_eq_true rfl)
  rw [show entryFrame m args 4 = entryFrame m ([.ref a_this, .int x0] : List Value).toArray 4 by rw [eargs], lg_entry_eq]
  generalize (lg_sl ([.ref a_this, .int x0]) ++ List.replicate (4 - (lg_sl ([.ref a_this, .int x0])).length) Slot.unset).toArray = ls at hl ⊢
  have hl : lv_has ls 4 [(0, .ref a_this), (1, .int x0)] := hl
  rw [im_X2_frameAt] at h
  refine lv_aload_n hx hb dX2_frameAt_0 rfl (lv_at hl 0 rfl) ?_
  refine va_get (D := (dC, dI)) (ci := 2) (v := .int i_this_kind) (C := RX2) (T := TX2) (N := 10) hx hb hts hn_X2_frameAt_X2 hown hK hP 0 rfl rfl 0 (by decide) (hts _ fl_X2_frameAt_11) (fun _ h9 => h9) rfl dX2_frameAt_1 ?_
  refine lv_iconst (v := (2 : Int32)) hx hb dX2_frameAt_4 (by decide) ?_
  refine lv_icmp_ne (tgt := 13) hx hb dX2_frameAt_5 (by decide) (fun c5 => ?_) (fun c5 => ?_)
  · replace h := im_f c5 h
    refine lv_aload_n hx hb dX2_frameAt_13 rfl (lv_at hl 0 rfl) ?_
    refine va_get (D := (dC, dI)) (ci := 2) (v := .int i_this_fourHeights) (C := RX2) (T := TX2) (N := 10) hx hb hts hn_X2_frameAt_X2 hown hK hP 0 rfl rfl 6 (by decide) (hts _ fl_X2_frameAt_37) (fun _ h9 => h9) rfl dX2_frameAt_14 ?_
    refine lv_if_eq (tgt := 26) hx hb dX2_frameAt_17 (by decide) (fun c17 => ?_) (fun c17 => ?_)
    · replace h := im_t c17 h
      refine va_gets hx hb hZ_st_BarCodes_Form_TAG_ENDS (va_S.rf (A := fun _ => False)) hown (hts _ fl_X2_frameAt_101) (fun _ h9 => h9) dX2_frameAt_26 ?_
      refine lv_astore_n (lv' := [(2, .ref a_st_BarCodes_Form_TAG_ENDS), (0, .ref a_this), (1, .int x0)]) hx hb dX2_frameAt_29 rfl hl (by decide) rfl (fun ls hl => ?_)
      refine lv_iload_n hx hb dX2_frameAt_30 rfl (lv_at hl 2 rfl) ?_
      refine lv_iconst (v := (2 : Int32)) hx hb dX2_frameAt_31 (by decide) ?_
      refine lv_icmp_ge (tgt := 39) hx hb dX2_frameAt_32 (by decide) (fun c32 => ?_) (fun c32 => ?_)
      · replace h := im_t c32 h
        refine lv_aload_n hx hb dX2_frameAt_39 rfl (lv_at hl 1 rfl) ?_
        refine va_get (D := (dC, dI)) (ci := 2) (v := .int i_this_rowLength) (C := RX2) (T := TX2) (N := 10) hx hb hts hn_X2_frameAt_X2 hown hK hP 0 rfl rfl 4 (by decide) (hts _ fl_X2_frameAt_52) (fun _ h9 => h9) rfl dX2_frameAt_40 ?_
        refine lv_iconst (v := (2 : Int32)) hx hb dX2_frameAt_43 (by decide) ?_
        refine lv_isub hx hb dX2_frameAt_44 ?_
        refine lv_topi (fun v1 ev1 => ?_)
        replace h := im_lt_u h v1 ev1
        refine lv_istore_n (lv' := [(3, .int v1), (2, .ref a_st_BarCodes_Form_TAG_ENDS), (0, .ref a_this), (1, .int x0)]) hx hb dX2_frameAt_45 rfl hl (by decide) rfl (fun ls hl => ?_)
        refine lv_iload_n hx hb dX2_frameAt_46 rfl (lv_at hl 3 rfl) ?_
        refine lv_iload_n hx hb dX2_frameAt_47 rfl (lv_at hl 0 rfl) ?_
        refine lv_icmp_ge (tgt := 55) hx hb dX2_frameAt_48 (by decide) (fun c48 => ?_) (fun c48 => ?_)
        · replace h := im_t c48 h
          refine lv_aload_n hx hb dX2_frameAt_55 rfl (lv_at hl 1 rfl) ?_
          refine lv_iconst (v := (2 : Int32)) hx hb dX2_frameAt_56 (by decide) ?_
          refine lv_iload_n hx hb dX2_frameAt_57 rfl (lv_at hl 3 rfl) ?_
          refine lv_iadd hx hb dX2_frameAt_58 ?_
          refine lv_topi (fun v2 ev2 => ?_)
          replace h := im_lt_u h v2 ev2
          refine lv_iload_n hx hb dX2_frameAt_59 rfl (lv_at hl 0 rfl) ?_
          refine lv_isub hx hb dX2_frameAt_60 ?_
          refine lv_topi (fun v3 ev3 => ?_)
          replace h := im_lt_u h v3 ev3
          obtain ⟨q61, h⟩ := im_ld_u h
          refine va_ti hx hb hT_st_BarCodes_Form_TAG_ENDS (va_S.rf (A := fun _ => False)) q61 (v := .int (f_st_BarCodes_Form_TAG_ENDS v3.toNatClampNeg)) rfl dX2_frameAt_61 ?_
          refine lv_topi (fun v4 ev4 => ?_)
          replace h := h v4 ev4
          rw [eQ]
          exact W.iret (v := v4) hx hb hr (fun t ht hW => ⟨_, rfl, Option.some.inj h, ht⟩) (fun _ h9 => by cases h9) dX2_frameAt_62
        · replace h := im_f c48 h
          refine lv_iconst (v := (-1 : Int32)) hx hb dX2_frameAt_51 (by decide) ?_
          refine lv_goto (tgt := 62) hx hb dX2_frameAt_52 (by decide) ?_
          rw [eQ]
          exact W.iret (v := (-1 : Int32)) hx hb hr (fun t ht hW => ⟨_, rfl, Option.some.inj h, ht⟩) (fun _ h9 => by cases h9) dX2_frameAt_62
      · replace h := im_f c32 h
        refine lv_aload_n hx hb dX2_frameAt_35 rfl (lv_at hl 0 rfl) ?_
        refine lv_iload_n hx hb dX2_frameAt_36 rfl (lv_at hl 2 rfl) ?_
        obtain ⟨q37, h⟩ := im_ld_u h
        refine va_ti hx hb hT_st_BarCodes_Form_TAG_ENDS (va_S.rf (A := fun _ => False)) q37 (v := .int (f_st_BarCodes_Form_TAG_ENDS x0.toNatClampNeg)) rfl dX2_frameAt_37 ?_
        refine lv_topi (fun v5 ev5 => ?_)
        replace h := h v5 ev5
        rw [eQ]
        exact W.iret (v := v5) hx hb hr (fun t ht hW => ⟨_, rfl, Option.some.inj h, ht⟩) (fun _ h9 => by cases h9) dX2_frameAt_38
    · replace h := im_f c17 h
      refine va_gets hx hb hZ_st_BarCodes_Form_FOUR_HEIGHT_ENDS (va_S.rf (A := fun _ => False)) hown (hts _ fl_X2_frameAt_98) (fun _ h9 => h9) dX2_frameAt_20 ?_
      refine lv_goto (tgt := 29) hx hb dX2_frameAt_23 (by decide) ?_
      refine lv_astore_n (lv' := [(2, .ref a_st_BarCodes_Form_FOUR_HEIGHT_ENDS), (0, .ref a_this), (1, .int x0)]) hx hb dX2_frameAt_29 rfl hl (by decide) rfl (fun ls hl => ?_)
      refine lv_iload_n hx hb dX2_frameAt_30 rfl (lv_at hl 2 rfl) ?_
      refine lv_iconst (v := (2 : Int32)) hx hb dX2_frameAt_31 (by decide) ?_
      refine lv_icmp_ge (tgt := 39) hx hb dX2_frameAt_32 (by decide) (fun c32 => ?_) (fun c32 => ?_)
      · replace h := im_t c32 h
        refine lv_aload_n hx hb dX2_frameAt_39 rfl (lv_at hl 1 rfl) ?_
        refine va_get (D := (dC, dI)) (ci := 2) (v := .int i_this_rowLength) (C := RX2) (T := TX2) (N := 10) hx hb hts hn_X2_frameAt_X2 hown hK hP 0 rfl rfl 4 (by decide) (hts _ fl_X2_frameAt_52) (fun _ h9 => h9) rfl dX2_frameAt_40 ?_
        refine lv_iconst (v := (2 : Int32)) hx hb dX2_frameAt_43 (by decide) ?_
        refine lv_isub hx hb dX2_frameAt_44 ?_
        refine lv_topi (fun v6 ev6 => ?_)
        replace h := im_lt_u h v6 ev6
        refine lv_istore_n (lv' := [(3, .int v6), (2, .ref a_st_BarCodes_Form_FOUR_HEIGHT_ENDS), (0, .ref a_this), (1, .int x0)]) hx hb dX2_frameAt_45 rfl hl (by decide) rfl (fun ls hl => ?_)
        refine lv_iload_n hx hb dX2_frameAt_46 rfl (lv_at hl 3 rfl) ?_
        refine lv_iload_n hx hb dX2_frameAt_47 rfl (lv_at hl 0 rfl) ?_
        refine lv_icmp_ge (tgt := 55) hx hb dX2_frameAt_48 (by decide) (fun c48 => ?_) (fun c48 => ?_)
        · replace h := im_t c48 h
          refine lv_aload_n hx hb dX2_frameAt_55 rfl (lv_at hl 1 rfl) ?_
          refine lv_iconst (v := (2 : Int32)) hx hb dX2_frameAt_56 (by decide) ?_
          refine lv_iload_n hx hb dX2_frameAt_57 rfl (lv_at hl 3 rfl) ?_
          refine lv_iadd hx hb dX2_frameAt_58 ?_
          refine lv_topi (fun v7 ev7 => ?_)
          replace h := im_lt_u h v7 ev7
          refine lv_iload_n hx hb dX2_frameAt_59 rfl (lv_at hl 0 rfl) ?_
          refine lv_isub hx hb dX2_frameAt_60 ?_
          refine lv_topi (fun v8 ev8 => ?_)
          replace h := im_lt_u h v8 ev8
          obtain ⟨q61, h⟩ := im_ld_u h
          refine va_ti hx hb hT_st_BarCodes_Form_FOUR_HEIGHT_ENDS (va_S.rf (A := fun _ => False)) q61 (v := .int (f_st_BarCodes_Form_FOUR_HEIGHT_ENDS v8.toNatClampNeg)) rfl dX2_frameAt_61 ?_
          refine lv_topi (fun v9 ev9 => ?_)
          replace h := h v9 ev9
          rw [eQ]
          exact W.iret (v := v9) hx hb hr (fun t ht hW => ⟨_, rfl, Option.some.inj h, ht⟩) (fun _ h9 => by cases h9) dX2_frameAt_62
        · replace h := im_f c48 h
          refine lv_iconst (v := (-1 : Int32)) hx hb dX2_frameAt_51 (by decide) ?_
          refine lv_goto (tgt := 62) hx hb dX2_frameAt_52 (by decide) ?_
          rw [eQ]
          exact W.iret (v := (-1 : Int32)) hx hb hr (fun t ht hW => ⟨_, rfl, Option.some.inj h, ht⟩) (fun _ h9 => by cases h9) dX2_frameAt_62
      · replace h := im_f c32 h
        refine lv_aload_n hx hb dX2_frameAt_35 rfl (lv_at hl 0 rfl) ?_
        refine lv_iload_n hx hb dX2_frameAt_36 rfl (lv_at hl 2 rfl) ?_
        obtain ⟨q37, h⟩ := im_ld_u h
        refine va_ti hx hb hT_st_BarCodes_Form_FOUR_HEIGHT_ENDS (va_S.rf (A := fun _ => False)) q37 (v := .int (f_st_BarCodes_Form_FOUR_HEIGHT_ENDS x0.toNatClampNeg)) rfl dX2_frameAt_37 ?_
        refine lv_topi (fun v10 ev10 => ?_)
        replace h := h v10 ev10
        rw [eQ]
        exact W.iret (v := v10) hx hb hr (fun t ht hW => ⟨_, rfl, Option.some.inj h, ht⟩) (fun _ h9 => by cases h9) dX2_frameAt_38
  · replace h := im_t c5 h
    refine lv_iload_n hx hb dX2_frameAt_8 rfl (lv_at hl 1 rfl) ?_
    obtain ⟨v11, y9, h⟩ := im_b1_u h
    refine vp_callSi (W.runS (As := [.int x0]) (rest := []) ⟨hx, hb, hml, hown, hts⟩ (c_X3_frameAt l x0 y9) (va_cwS 1 hts gX2_frameAt_X3_frameAt rfl rfl rfl (by decide +kernel) ⟨Nat.le_of_ble_eq_true rfl, Nat.le_of_ble_eq_true rfl⟩) ⟨fun _ _ _ _ q => q, fun U hU hW => ⟨rfl, trivial⟩⟩ rfl rfl hl.1 rfl (lv_room (Nat.le_of_ble_eq_true rfl)) dX2_frameAt_9 ⟨Nat.zero_le _, Nat.zero_le _⟩) (fun w9 ew9 => ?_)
    have ew9 := ew9.symm
    subst ew9
    rw [eQ]
    exact W.iret (v := v11) hx hb hr (fun t ht hW => ⟨_, rfl, Option.some.inj h, ht⟩) (fun _ h9 => by cases h9) dX2_frameAt_12
def im_X2_keyOf (x0 : Int32) (i_this_checks : Int32) (i_this_symbols : Int32) (i_this_checkKey : Int32) : Option (Int32) := im_lt (i_this_symbols - i_this_checks) (fun v1 => if v1 ≤ x0 then (some i_this_checkKey) else (some (0 : Int32)))
abbrev rm_X2_keyOf : Room := { frames := 0, cells := 0, slots := 0, locals := 0 }
theorem hn_X2_keyOf_X2 : ∀ w ∈ wsX20, w ∈ wsX2_keyOf := by decide +kernel
theorem fl_X2_keyOf_34 : Cond.fieldLink RX2 34 "BarCodes$Form" "symbols" "I" ∈ wsX2_keyOf := by decide +kernel
theorem fl_X2_keyOf_27 : Cond.fieldLink RX2 27 "BarCodes$Form" "checks" "I" ∈ wsX2_keyOf := by decide +kernel
theorem fl_X2_keyOf_55 : Cond.fieldLink RX2 55 "BarCodes$Form" "checkKey" "I" ∈ wsX2_keyOf := by decide +kernel
set_option maxHeartbeats 4000000 in
set_option maxRecDepth 100000 in
theorem c_X2_keyOf (l : Launch) (dC : Nat → ClassId) (dI : Nat → Nat → Nat) (cI cJ cZ : ClassId) (a_this a_this_widths : Nat) (i_this_kind i_this_checks i_this_symbols i_this_rowLength i_this_highestBar i_this_fourHeights i_this_barBits i_this_symbolBars i_this_checkKey : Int32) (x0 : Int32) {r : Int32} (h : im_X2_keyOf x0 i_this_checks i_this_symbols i_this_checkKey = some r) : Met l yX2_keyOf wsX2_keyOf rm_X2_keyOf (va_Pc [.ref a_this, .int x0] (fun U => va_P (dC, dI) vwCl [(a_this, .inr (2, [.int i_this_kind, .ref a_this_widths, .int i_this_checks, .int i_this_symbols, .int i_this_rowLength, .int i_this_highestBar, .int i_this_fourHeights, .int i_this_barBits, .int i_this_symbolBars, .int i_this_checkKey]))] U.heap ∧ va_K (dC, dI) vwCl [(cI, .int), (cJ, .long), (cZ, .boolean)] U)) (vp_Si (fun r9 => r9 = r)) 0 0 (fun _ => False) := by
  refine Met.ofW (cc := cX2_keyOf) (maxL := 2) (ret := (some .int)) (by decide) rfl ?_
  intro p e s m args below meth c s₁ B hml hv
  obtain ⟨eargs, hP, hK⟩ := hv
  have hx := B.exec
  have hb := B.bytes
  have hr := B.returns
  have hts := atoms_spec (ws := wsX2_keyOf) B.pre
  have hown : s.vm.findClass RX2 = some m.cls := findClass_of_methodNamed B.named
  have hlocks := B.notSynchronized
  refine im_Q (fun Q eQ => ?_)
  have hl := lv_entry [.ref a_this, .int x0] (n := 2) (Nat.le_of_ble_eq_true rfl)
  rw [show entryFrame m args 2 = entryFrame m ([.ref a_this, .int x0] : List Value).toArray 2 by rw [eargs], lg_entry_eq]
  generalize (lg_sl ([.ref a_this, .int x0]) ++ List.replicate (2 - (lg_sl ([.ref a_this, .int x0])).length) Slot.unset).toArray = ls at hl ⊢
  have hl : lv_has ls 2 [(0, .ref a_this), (1, .int x0)] := hl
  rw [im_X2_keyOf] at h
  refine lv_iload_n hx hb dX2_keyOf_0 rfl (lv_at hl 1 rfl) ?_
  refine lv_aload_n hx hb dX2_keyOf_1 rfl (lv_at hl 0 rfl) ?_
  refine va_get (D := (dC, dI)) (ci := 2) (v := .int i_this_symbols) (C := RX2) (T := TX2) (N := 10) hx hb hts hn_X2_keyOf_X2 hown hK hP 0 rfl rfl 3 (by decide) (hts _ fl_X2_keyOf_34) (fun _ h9 => h9) rfl dX2_keyOf_2 ?_
  refine lv_aload_n hx hb dX2_keyOf_5 rfl (lv_at hl 0 rfl) ?_
  refine va_get (D := (dC, dI)) (ci := 2) (v := .int i_this_checks) (C := RX2) (T := TX2) (N := 10) hx hb hts hn_X2_keyOf_X2 hown hK hP 0 rfl rfl 2 (by decide) (hts _ fl_X2_keyOf_27) (fun _ h9 => h9) rfl dX2_keyOf_6 ?_
  refine lv_isub hx hb dX2_keyOf_9 ?_
  refine lv_topi (fun v1 ev1 => ?_)
  replace h := im_lt_u h v1 ev1
  refine lv_icmp_ge (tgt := 17) hx hb dX2_keyOf_10 (by decide) (fun c10 => ?_) (fun c10 => ?_)
  · replace h := im_t c10 h
    refine lv_aload_n hx hb dX2_keyOf_17 rfl (lv_at hl 0 rfl) ?_
    refine va_get (D := (dC, dI)) (ci := 2) (v := .int i_this_checkKey) (C := RX2) (T := TX2) (N := 10) hx hb hts hn_X2_keyOf_X2 hown hK hP 0 rfl rfl 9 (by decide) (hts _ fl_X2_keyOf_55) (fun _ h9 => h9) rfl dX2_keyOf_18 ?_
    rw [eQ]
    exact W.iret (v := i_this_checkKey) hx hb hr (fun t ht hW => ⟨_, rfl, Option.some.inj h, ht⟩) (fun _ h9 => by cases h9) dX2_keyOf_21
  · replace h := im_f c10 h
    refine lv_iconst (v := (0 : Int32)) hx hb dX2_keyOf_13 (by decide) ?_
    refine lv_goto (tgt := 21) hx hb dX2_keyOf_14 (by decide) ?_
    rw [eQ]
    exact W.iret (v := (0 : Int32)) hx hb hr (fun t ht hW => ⟨_, rfl, Option.some.inj h, ht⟩) (fun _ h9 => by cases h9) dX2_keyOf_21
def im_X2_placeOf (x0 : Int32) (i_this_kind : Int32) : Option (Int32) := if i_this_kind = (2 : Int32) then im_b1 (im_X3_placeOf x0) (fun v2 => (some v2)) else im_lt ((2 : Int32) + x0) (fun v1 => (some v1))
abbrev rm_X2_placeOf : Room := { frames := 1, cells := 0, slots := 0, locals := 20 }
theorem hn_X2_placeOf_X2 : ∀ w ∈ wsX20, w ∈ wsX2_placeOf := by decide +kernel
theorem fl_X2_placeOf_11 : Cond.fieldLink RX2 11 "BarCodes$Form" "kind" "I" ∈ wsX2_placeOf := by decide +kernel
set_option maxHeartbeats 4000000 in
set_option maxRecDepth 100000 in
theorem c_X2_placeOf (l : Launch) (dC : Nat → ClassId) (dI : Nat → Nat → Nat) (cI cJ cZ : ClassId) (a_this a_this_widths : Nat) (i_this_kind i_this_checks i_this_symbols i_this_rowLength i_this_highestBar i_this_fourHeights i_this_barBits i_this_symbolBars i_this_checkKey : Int32) (x0 : Int32) {r : Int32} (h : im_X2_placeOf x0 i_this_kind = some r) : Met l yX2_placeOf wsX2_placeOf rm_X2_placeOf (va_Pc [.ref a_this, .int x0] (fun U => va_P (dC, dI) vwCl [(a_this, .inr (2, [.int i_this_kind, .ref a_this_widths, .int i_this_checks, .int i_this_symbols, .int i_this_rowLength, .int i_this_highestBar, .int i_this_fourHeights, .int i_this_barBits, .int i_this_symbolBars, .int i_this_checkKey]))] U.heap ∧ va_K (dC, dI) vwCl [(cI, .int), (cJ, .long), (cZ, .boolean)] U)) (vp_Si (fun r9 => r9 = r)) 0 0 (fun _ => False) := by
  refine Met.ofW (cc := cX2_placeOf) (maxL := 2) (ret := (some .int)) (by decide) rfl ?_
  intro p e s m args below meth c s₁ B hml hv
  obtain ⟨eargs, hP, hK⟩ := hv
  have hx := B.exec
  have hb := B.bytes
  have hr := B.returns
  have hts := atoms_spec (ws := wsX2_placeOf) B.pre
  have hown : s.vm.findClass RX2 = some m.cls := findClass_of_methodNamed B.named
  have hlocks := B.notSynchronized
  refine im_Q (fun Q eQ => ?_)
  have hl := lv_entry [.ref a_this, .int x0] (n := 2) (Nat.le_of_ble_eq_true rfl)
  rw [show entryFrame m args 2 = entryFrame m ([.ref a_this, .int x0] : List Value).toArray 2 by rw [eargs], lg_entry_eq]
  generalize (lg_sl ([.ref a_this, .int x0]) ++ List.replicate (2 - (lg_sl ([.ref a_this, .int x0])).length) Slot.unset).toArray = ls at hl ⊢
  have hl : lv_has ls 2 [(0, .ref a_this), (1, .int x0)] := hl
  rw [im_X2_placeOf] at h
  refine lv_aload_n hx hb dX2_placeOf_0 rfl (lv_at hl 0 rfl) ?_
  refine va_get (D := (dC, dI)) (ci := 2) (v := .int i_this_kind) (C := RX2) (T := TX2) (N := 10) hx hb hts hn_X2_placeOf_X2 hown hK hP 0 rfl rfl 0 (by decide) (hts _ fl_X2_placeOf_11) (fun _ h9 => h9) rfl dX2_placeOf_1 ?_
  refine lv_iconst (v := (2 : Int32)) hx hb dX2_placeOf_4 (by decide) ?_
  refine lv_icmp_ne (tgt := 15) hx hb dX2_placeOf_5 (by decide) (fun c5 => ?_) (fun c5 => ?_)
  · replace h := im_f c5 h
    refine lv_iconst (v := (2 : Int32)) hx hb dX2_placeOf_15 (by decide) ?_
    refine lv_iload_n hx hb dX2_placeOf_16 rfl (lv_at hl 1 rfl) ?_
    refine lv_iadd hx hb dX2_placeOf_17 ?_
    refine lv_topi (fun v1 ev1 => ?_)
    replace h := im_lt_u h v1 ev1
    rw [eQ]
    exact W.iret (v := v1) hx hb hr (fun t ht hW => ⟨_, rfl, Option.some.inj h, ht⟩) (fun _ h9 => by cases h9) dX2_placeOf_18
  · replace h := im_t c5 h
    refine lv_iload_n hx hb dX2_placeOf_8 rfl (lv_at hl 1 rfl) ?_
    obtain ⟨v2, y9, h⟩ := im_b1_u h
    refine vp_callSi (W.runS (As := [.int x0]) (rest := []) ⟨hx, hb, hml, hown, hts⟩ (c_X3_placeOf l x0 y9) (va_cwS 1 hts gX2_placeOf_X3_placeOf rfl rfl rfl (by decide +kernel) ⟨Nat.le_of_ble_eq_true rfl, Nat.le_of_ble_eq_true rfl⟩) ⟨fun _ _ _ _ q => q, fun U hU hW => ⟨rfl, trivial⟩⟩ rfl rfl hl.1 rfl (lv_room (Nat.le_of_ble_eq_true rfl)) dX2_placeOf_9 ⟨Nat.zero_le _, Nat.zero_le _⟩) (fun w9 ew9 => ?_)
    have ew9 := ew9.symm
    subst ew9
    refine lv_goto (tgt := 18) hx hb dX2_placeOf_12 (by decide) ?_
    rw [eQ]
    exact W.iret (v := v2) hx hb hr (fun t ht hW => ⟨_, rfl, Option.some.inj h, ht⟩) (fun _ h9 => by cases h9) dX2_placeOf_18
def im_X2_turnAt (x0 : Int32) (x1 : Int32) (i_this_kind : Int32) : Option (Int32) := im_j0 ((some (0 : Int32))) (fun K1 => if i_this_kind = (2 : Int32) then im_b1 (im_X3_isTurned x0 x1) (fun v2 => if v2 = 0 then (K1) else (some (1 : Int32))) else (K1))
abbrev rm_X2_turnAt : Room := { frames := 1, cells := 0, slots := 0, locals := 23 }
theorem hn_X2_turnAt_X2 : ∀ w ∈ wsX20, w ∈ wsX2_turnAt := by decide +kernel
theorem fl_X2_turnAt_11 : Cond.fieldLink RX2 11 "BarCodes$Form" "kind" "I" ∈ wsX2_turnAt := by decide +kernel
set_option maxHeartbeats 4000000 in
set_option maxRecDepth 100000 in
theorem c_X2_turnAt (l : Launch) (dC : Nat → ClassId) (dI : Nat → Nat → Nat) (cI cJ cZ : ClassId) (a_this a_this_widths : Nat) (i_this_kind i_this_checks i_this_symbols i_this_rowLength i_this_highestBar i_this_fourHeights i_this_barBits i_this_symbolBars i_this_checkKey : Int32) (x0 : Int32) (x1 : Int32) {r : Int32} (h : im_X2_turnAt x0 x1 i_this_kind = some r) : Met l yX2_turnAt wsX2_turnAt rm_X2_turnAt (va_Pc [.ref a_this, .int x0, .int x1] (fun U => va_P (dC, dI) vwCl [(a_this, .inr (2, [.int i_this_kind, .ref a_this_widths, .int i_this_checks, .int i_this_symbols, .int i_this_rowLength, .int i_this_highestBar, .int i_this_fourHeights, .int i_this_barBits, .int i_this_symbolBars, .int i_this_checkKey]))] U.heap ∧ va_K (dC, dI) vwCl [(cI, .int), (cJ, .long), (cZ, .boolean)] U)) (vp_Si (fun r9 => r9 = r)) 0 0 (fun _ => False) := by
  refine Met.ofW (cc := cX2_turnAt) (maxL := 3) (ret := (some .int)) (by decide) rfl ?_
  intro p e s m args below meth c s₁ B hml hv
  obtain ⟨eargs, hP, hK⟩ := hv
  have hx := B.exec
  have hb := B.bytes
  have hr := B.returns
  have hts := atoms_spec (ws := wsX2_turnAt) B.pre
  have hown : s.vm.findClass RX2 = some m.cls := findClass_of_methodNamed B.named
  have hlocks := B.notSynchronized
  refine im_Q (fun Q eQ => ?_)
  have hl := lv_entry [.ref a_this, .int x0, .int x1] (n := 3) (Nat.le_of_ble_eq_true rfl)
  rw [show entryFrame m args 3 = entryFrame m ([.ref a_this, .int x0, .int x1] : List Value).toArray 3 by rw [eargs], lg_entry_eq]
  generalize (lg_sl ([.ref a_this, .int x0, .int x1]) ++ List.replicate (3 - (lg_sl ([.ref a_this, .int x0, .int x1])).length) Slot.unset).toArray = ls at hl ⊢
  have hl : lv_has ls 3 [(0, .ref a_this), (1, .int x0), (2, .int x1)] := hl
  rw [im_X2_turnAt] at h
  refine im_j0_u (P := ∀ (ls : Array Slot), lv_has ls 3 [] → W p l e (headSpec wsX2_turnAt rm_X2_turnAt).room s m args below meth c s.heap [] 0 0 Q (F0 m 20 ls [])) h (fun h ls hl => ?_) (fun K1 J1 h => ?_)
  · refine lv_iconst (v := (0 : Int32)) hx hb dX2_turnAt_20 (by decide) ?_
    rw [eQ]
    exact W.iret (v := (0 : Int32)) hx hb hr (fun t ht hW => ⟨_, rfl, Option.some.inj h, ht⟩) (fun _ h9 => by cases h9) dX2_turnAt_21
  · refine lv_aload_n hx hb dX2_turnAt_0 rfl (lv_at hl 0 rfl) ?_
    refine va_get (D := (dC, dI)) (ci := 2) (v := .int i_this_kind) (C := RX2) (T := TX2) (N := 10) hx hb hts hn_X2_turnAt_X2 hown hK hP 0 rfl rfl 0 (by decide) (hts _ fl_X2_turnAt_11) (fun _ h9 => h9) rfl dX2_turnAt_1 ?_
    refine lv_iconst (v := (2 : Int32)) hx hb dX2_turnAt_4 (by decide) ?_
    refine lv_icmp_ne (tgt := 20) hx hb dX2_turnAt_5 (by decide) (fun c5 => ?_) (fun c5 => ?_)
    · replace h := im_f c5 h
      exact J1  h _ (lv_sub hl [] rfl)
    · replace h := im_t c5 h
      refine lv_iload_n hx hb dX2_turnAt_8 rfl (lv_at hl 1 rfl) ?_
      refine lv_iload_n hx hb dX2_turnAt_9 rfl (lv_at hl 2 rfl) ?_
      obtain ⟨v2, y10, h⟩ := im_b1_u h
      refine vp_callSi (W.runS (As := [.int x0, .int x1]) (rest := []) ⟨hx, hb, hml, hown, hts⟩ (c_X3_isTurned l x0 x1 y10) (va_cwS 2 hts gX2_turnAt_X3_isTurned rfl rfl rfl (by decide +kernel) ⟨Nat.le_of_ble_eq_true rfl, Nat.le_of_ble_eq_true rfl⟩) ⟨fun _ _ _ _ q => q, fun U hU hW => ⟨rfl, trivial⟩⟩ rfl rfl hl.1 rfl (lv_room (Nat.le_of_ble_eq_true rfl)) dX2_turnAt_10 ⟨Nat.zero_le _, Nat.zero_le _⟩) (fun w10 ew10 => ?_)
      have ew10 := ew10.symm
      subst ew10
      refine lv_if_eq (tgt := 20) hx hb dX2_turnAt_13 (by decide) (fun c13 => ?_) (fun c13 => ?_)
      · replace h := im_t c13 h
        exact J1  h _ (lv_sub hl [] rfl)
      · replace h := im_f c13 h
        refine lv_iconst (v := (1 : Int32)) hx hb dX2_turnAt_16 (by decide) ?_
        refine lv_goto (tgt := 21) hx hb dX2_turnAt_17 (by decide) ?_
        rw [eQ]
        exact W.iret (v := (1 : Int32)) hx hb hr (fun t ht hW => ⟨_, rfl, Option.some.inj h, ht⟩) (fun _ h9 => by cases h9) dX2_turnAt_21
def im_X2_fromOtherSide (x0 : Int32) (i_this_fourHeights : Int32) : Option (Int32) := if i_this_fourHeights = 0 then (some x0) else im_j0 (im_lt ((3 : Int32) - x0) (fun v2 => (some v2))) (fun K1 => if x0 = (1 : Int32) then (K1) else if x0 = (2 : Int32) then (K1) else (some x0))
abbrev rm_X2_fromOtherSide : Room := { frames := 0, cells := 0, slots := 0, locals := 0 }
theorem hn_X2_fromOtherSide_X2 : ∀ w ∈ wsX20, w ∈ wsX2_fromOtherSide := by decide +kernel
theorem fl_X2_fromOtherSide_37 : Cond.fieldLink RX2 37 "BarCodes$Form" "fourHeights" "Z" ∈ wsX2_fromOtherSide := by decide +kernel
set_option maxHeartbeats 4000000 in
set_option maxRecDepth 100000 in
theorem c_X2_fromOtherSide (l : Launch) (dC : Nat → ClassId) (dI : Nat → Nat → Nat) (cI cJ cZ : ClassId) (a_this a_this_widths : Nat) (i_this_kind i_this_checks i_this_symbols i_this_rowLength i_this_highestBar i_this_fourHeights i_this_barBits i_this_symbolBars i_this_checkKey : Int32) (x0 : Int32) {r : Int32} (h : im_X2_fromOtherSide x0 i_this_fourHeights = some r) : Met l yX2_fromOtherSide wsX2_fromOtherSide rm_X2_fromOtherSide (va_Pc [.ref a_this, .int x0] (fun U => va_P (dC, dI) vwCl [(a_this, .inr (2, [.int i_this_kind, .ref a_this_widths, .int i_this_checks, .int i_this_symbols, .int i_this_rowLength, .int i_this_highestBar, .int i_this_fourHeights, .int i_this_barBits, .int i_this_symbolBars, .int i_this_checkKey]))] U.heap ∧ va_K (dC, dI) vwCl [(cI, .int), (cJ, .long), (cZ, .boolean)] U)) (vp_Si (fun r9 => r9 = r)) 0 0 (fun _ => False) := by
  refine Met.ofW (cc := cX2_fromOtherSide) (maxL := 2) (ret := (some .int)) (by decide) rfl ?_
  intro p e s m args below meth c s₁ B hml hv
  obtain ⟨eargs, hP, hK⟩ := hv
  have hx := B.exec
  have hb := B.bytes
  have hr := B.returns
  have hts := atoms_spec (ws := wsX2_fromOtherSide) B.pre
  have hown : s.vm.findClass RX2 = some m.cls := findClass_of_methodNamed B.named
  have hlocks := B.notSynchronized
  refine im_Q (fun Q eQ => ?_)
  have hl := lv_entry [.ref a_this, .int x0] (n := 2) (Nat.le_of_ble_eq_true rfl)
  rw [show entryFrame m args 2 = entryFrame m ([.ref a_this, .int x0] : List Value).toArray 2 by rw [eargs], lg_entry_eq]
  generalize (lg_sl ([.ref a_this, .int x0]) ++ List.replicate (2 - (lg_sl ([.ref a_this, .int x0])).length) Slot.unset).toArray = ls at hl ⊢
  have hl : lv_has ls 2 [(0, .ref a_this), (1, .int x0)] := hl
  rw [im_X2_fromOtherSide] at h
  refine lv_aload_n hx hb dX2_fromOtherSide_0 rfl (lv_at hl 0 rfl) ?_
  refine va_get (D := (dC, dI)) (ci := 2) (v := .int i_this_fourHeights) (C := RX2) (T := TX2) (N := 10) hx hb hts hn_X2_fromOtherSide_X2 hown hK hP 0 rfl rfl 6 (by decide) (hts _ fl_X2_fromOtherSide_37) (fun _ h9 => h9) rfl dX2_fromOtherSide_1 ?_
  refine lv_if_eq (tgt := 21) hx hb dX2_fromOtherSide_4 (by decide) (fun c4 => ?_) (fun c4 => ?_)
  · replace h := im_t c4 h
    refine lv_iload_n hx hb dX2_fromOtherSide_21 rfl (lv_at hl 1 rfl) ?_
    rw [eQ]
    exact W.iret (v := x0) hx hb hr (fun t ht hW => ⟨_, rfl, Option.some.inj h, ht⟩) (fun _ h9 => by cases h9) dX2_fromOtherSide_22
  · replace h := im_f c4 h
    refine im_j0_u (P := ∀ (ls : Array Slot), lv_has ls 2 [(1, .int x0)] → W p l e (headSpec wsX2_fromOtherSide rm_X2_fromOtherSide).room s m args below meth c s.heap [] 0 0 Q (F0 m 17 ls [])) h (fun h ls hl => ?_) (fun K1 J1 h => ?_)
    · refine lv_iconst (v := (3 : Int32)) hx hb dX2_fromOtherSide_17 (by decide) ?_
      refine lv_iload_n hx hb dX2_fromOtherSide_18 rfl (lv_at hl 0 rfl) ?_
      refine lv_isub hx hb dX2_fromOtherSide_19 ?_
      refine lv_topi (fun v2 ev2 => ?_)
      replace h := im_lt_u h v2 ev2
      rw [eQ]
      exact W.iret (v := v2) hx hb hr (fun t ht hW => ⟨_, rfl, Option.some.inj h, ht⟩) (fun _ h9 => by cases h9) dX2_fromOtherSide_20
    · refine lv_iload_n hx hb dX2_fromOtherSide_7 rfl (lv_at hl 1 rfl) ?_
      refine lv_iconst (v := (1 : Int32)) hx hb dX2_fromOtherSide_8 (by decide) ?_
      refine lv_icmp_eq (tgt := 17) hx hb dX2_fromOtherSide_9 (by decide) (fun c9 => ?_) (fun c9 => ?_)
      · replace h := im_t c9 h
        exact J1  h _ (lv_sub hl [1] rfl)
      · replace h := im_f c9 h
        refine lv_iload_n hx hb dX2_fromOtherSide_12 rfl (lv_at hl 1 rfl) ?_
        refine lv_iconst (v := (2 : Int32)) hx hb dX2_fromOtherSide_13 (by decide) ?_
        refine lv_icmp_ne (tgt := 21) hx hb dX2_fromOtherSide_14 (by decide) (fun c14 => ?_) (fun c14 => ?_)
        · replace h := im_f c14 h
          refine lv_iload_n hx hb dX2_fromOtherSide_21 rfl (lv_at hl 1 rfl) ?_
          rw [eQ]
          exact W.iret (v := x0) hx hb hr (fun t ht hW => ⟨_, rfl, Option.some.inj h, ht⟩) (fun _ h9 => by cases h9) dX2_fromOtherSide_22
        · replace h := im_t c14 h
          exact J1  h _ (lv_sub hl [1] rfl)
def im_X2_draw_L56 (i_this_symbolBars : Int32) (K13 : (Nat → Int32) → Option ((Nat → Int32))) (v6 : Int32) (i_this_kind : Int32) (i_this_barBits : Int32) (v11 : Int32) (i_this_highestBar : Int32) (x1 : Int32) (n_p2 : Nat) : Nat → Int32 → (Nat → Int32) → Option ((Nat → Int32))
  | 0, _, _ => none
  | n + 1, v15, f16 => if i_this_symbolBars ≤ v15 then (K13 f16) else im_lt (v6 * i_this_symbolBars) (fun v18 => im_lt (v18 + v15) (fun v19 => im_b1 (im_X2_placeOf v19 i_this_kind) (fun v20 => im_lt (v15 + (1 : Int32)) (fun v21 => im_lt (v21 * i_this_barBits) (fun v22 => im_lt ((6 : Int32) - v22) (fun v23 => im_lt (v11 >>> (v23 &&& 31)) (fun v24 => im_lt (v24 &&& i_this_highestBar) (fun v25 => im_b1 (im_X2_turnAt v20 x1 i_this_kind) (fun v26 => im_lt (v25 ^^^ v26) (fun v27 => im_st n_p2 f16 v20 v27 (fun f28 => im_lt (v15 + (1 : Int32)) (fun v29 => (im_X2_draw_L56 i_this_symbolBars K13 v6 i_this_kind i_this_barBits v11 i_this_highestBar x1 n_p2 n v29 f28)))))))))))))
def im_X2_draw_L31 (i_this_symbols : Int32) (K4 : (Nat → Int32) → Option ((Nat → Int32))) (n_p0 : Nat) (f_p0 : Nat → Int32) (i_this_checks : Int32) (i_this_checkKey : Int32) (i_this_symbolBars : Int32) (i_this_kind : Int32) (i_this_barBits : Int32) (i_this_highestBar : Int32) (x1 : Int32) (n_p2 : Nat) : Nat → Int32 → (Nat → Int32) → Option ((Nat → Int32))
  | 0, _, _ => none
  | n + 1, v6, f7 => if i_this_symbols ≤ v6 then (K4 f7) else im_ld n_p0 f_p0 v6 (fun v9 => im_b1 (im_X2_keyOf v6 i_this_checks i_this_symbols i_this_checkKey) (fun v10 => im_lt (v9 ^^^ v10) (fun v11 => im_j1 (fun (f12 : Nat → Int32) => im_lt (v6 + (1 : Int32)) (fun v14 => (im_X2_draw_L31 i_this_symbols K4 n_p0 f_p0 i_this_checks i_this_checkKey i_this_symbolBars i_this_kind i_this_barBits i_this_highestBar x1 n_p2 n v14 f12))) (fun K13 => (im_X2_draw_L56 i_this_symbolBars K13 v6 i_this_kind i_this_barBits v11 i_this_highestBar x1 n_p2 5000 (0 : Int32) f7)))))
def im_X2_draw_L3 (i_this_rowLength : Int32) (K2 : (Nat → Int32) → Option ((Nat → Int32))) (i_this_kind : Int32) (i_this_fourHeights : Int32) (n_st_BarCodes_Form_FOUR_HEIGHT_ENDS : Nat) (n_st_BarCodes_Form_TAG_ENDS : Nat) (f_st_BarCodes_Form_FOUR_HEIGHT_ENDS : Nat → Int32) (f_st_BarCodes_Form_TAG_ENDS : Nat → Int32) (n_p2 : Nat) : Nat → Int32 → (Nat → Int32) → Option ((Nat → Int32))
  | 0, _, _ => none
  | n + 1, v30, f31 => if i_this_rowLength ≤ v30 then (K2 f31) else im_b1 (im_X2_frameAt v30 i_this_kind i_this_rowLength i_this_fourHeights n_st_BarCodes_Form_FOUR_HEIGHT_ENDS n_st_BarCodes_Form_TAG_ENDS f_st_BarCodes_Form_FOUR_HEIGHT_ENDS f_st_BarCodes_Form_TAG_ENDS) (fun v33 => im_st n_p2 f31 v30 v33 (fun f34 => im_lt (v30 + (1 : Int32)) (fun v35 => (im_X2_draw_L3 i_this_rowLength K2 i_this_kind i_this_fourHeights n_st_BarCodes_Form_FOUR_HEIGHT_ENDS n_st_BarCodes_Form_TAG_ENDS f_st_BarCodes_Form_FOUR_HEIGHT_ENDS f_st_BarCodes_Form_TAG_ENDS n_p2 n v35 f34))))
def im_X2_draw (x1 : Int32) (i_this_kind : Int32) (i_this_checks : Int32) (i_this_symbols : Int32) (i_this_rowLength : Int32) (i_this_highestBar : Int32) (i_this_fourHeights : Int32) (i_this_barBits : Int32) (i_this_symbolBars : Int32) (i_this_checkKey : Int32) (n_p0 : Nat) (n_p2 : Nat) (n_st_BarCodes_Form_FOUR_HEIGHT_ENDS : Nat) (n_st_BarCodes_Form_TAG_ENDS : Nat) (n_st_BarCodes_Square_MASK_SIGNS : Nat) (f_p0 : Nat → Int32) (f_p2 : Nat → Int32) (f_st_BarCodes_Form_FOUR_HEIGHT_ENDS : Nat → Int32) (f_st_BarCodes_Form_TAG_ENDS : Nat → Int32) (f_st_BarCodes_Square_MASK_SIGNS : Nat → Int32) : Option ((Nat → Int32)) := im_j1 (fun (f1 : Nat → Int32) => im_j1 (fun (f3 : Nat → Int32) => if i_this_kind = (2 : Int32) then im_b1 (im_X3_drawMask x1 n_p2 n_st_BarCodes_Square_MASK_SIGNS f3 f_st_BarCodes_Square_MASK_SIGNS) (fun f5 => (some f5)) else (some f3)) (fun K4 => (im_X2_draw_L31 i_this_symbols K4 n_p0 f_p0 i_this_checks i_this_checkKey i_this_symbolBars i_this_kind i_this_barBits i_this_highestBar x1 n_p2 5000 (0 : Int32) f1))) (fun K2 => (im_X2_draw_L3 i_this_rowLength K2 i_this_kind i_this_fourHeights n_st_BarCodes_Form_FOUR_HEIGHT_ENDS n_st_BarCodes_Form_TAG_ENDS f_st_BarCodes_Form_FOUR_HEIGHT_ENDS f_st_BarCodes_Form_TAG_ENDS n_p2 5000 (0 : Int32) f_p2))
abbrev rm_X2_draw : Room := { frames := 2, cells := 0, slots := 0, locals := 45 }
theorem hn_X2_draw_X2 : ∀ w ∈ wsX20, w ∈ wsX2_draw := by decide +kernel
theorem fl_X2_draw_11 : Cond.fieldLink RX2 11 "BarCodes$Form" "kind" "I" ∈ wsX2_draw := by decide +kernel
theorem fl_X2_draw_34 : Cond.fieldLink RX2 34 "BarCodes$Form" "symbols" "I" ∈ wsX2_draw := by decide +kernel
theorem fl_X2_draw_44 : Cond.fieldLink RX2 44 "BarCodes$Form" "symbolBars" "I" ∈ wsX2_draw := by decide +kernel
theorem fl_X2_draw_41 : Cond.fieldLink RX2 41 "BarCodes$Form" "barBits" "I" ∈ wsX2_draw := by decide +kernel
theorem fl_X2_draw_47 : Cond.fieldLink RX2 47 "BarCodes$Form" "highestBar" "I" ∈ wsX2_draw := by decide +kernel
theorem fl_X2_draw_52 : Cond.fieldLink RX2 52 "BarCodes$Form" "rowLength" "I" ∈ wsX2_draw := by decide +kernel
set_option maxHeartbeats 4000000 in
set_option maxRecDepth 100000 in
theorem c_X2_draw (l : Launch) (dC : Nat → ClassId) (dI : Nat → Nat → Nat) (cI cJ cZ : ClassId) (sz : Nat) (a_this a_this_widths a_p0 a_p2 a_st_BarCodes_Form_FOUR_HEIGHT_ENDS a_st_BarCodes_Form_TAG_ENDS a_st_BarCodes_Square_MASK_SIGNS : Nat) (i_this_kind i_this_checks i_this_symbols i_this_rowLength i_this_highestBar i_this_fourHeights i_this_barBits i_this_symbolBars i_this_checkKey : Int32) (n_p0 n_p2 n_st_BarCodes_Form_FOUR_HEIGHT_ENDS n_st_BarCodes_Form_TAG_ENDS n_st_BarCodes_Square_MASK_SIGNS : Nat) (f_p0 : Nat → Int32) (f_p2 : Nat → Int32) (f_st_BarCodes_Form_FOUR_HEIGHT_ENDS : Nat → Int32) (f_st_BarCodes_Form_TAG_ENDS : Nat → Int32) (f_st_BarCodes_Square_MASK_SIGNS : Nat → Int32) (x1 : Int32) {r : (Nat → Int32)} (h : im_X2_draw x1 i_this_kind i_this_checks i_this_symbols i_this_rowLength i_this_highestBar i_this_fourHeights i_this_barBits i_this_symbolBars i_this_checkKey n_p0 n_p2 n_st_BarCodes_Form_FOUR_HEIGHT_ENDS n_st_BarCodes_Form_TAG_ENDS n_st_BarCodes_Square_MASK_SIGNS f_p0 f_p2 f_st_BarCodes_Form_FOUR_HEIGHT_ENDS f_st_BarCodes_Form_TAG_ENDS f_st_BarCodes_Square_MASK_SIGNS = some r) : Met l yX2_draw wsX2_draw rm_X2_draw (va_Pc [.ref a_this, .ref a_p0, .int x1, .ref a_p2] (fun U => U.heap.size = sz ∧ va_P (dC, dI) vwCl [(a_this, .inr (2, [.int i_this_kind, .ref a_this_widths, .int i_this_checks, .int i_this_symbols, .int i_this_rowLength, .int i_this_highestBar, .int i_this_fourHeights, .int i_this_barBits, .int i_this_symbolBars, .int i_this_checkKey])), (a_p0, .inl (cI, n_p0, .inl f_p0)), (a_p2, .inl (cI, n_p2, .inl f_p2))] U.heap ∧ va_K (dC, dI) vwCl [(cI, .int), (cJ, .long), (cZ, .boolean)] U ∧ va_D (fun _ => True) [(a_this, .inr (2, [.int i_this_kind, .ref a_this_widths, .int i_this_checks, .int i_this_symbols, .int i_this_rowLength, .int i_this_highestBar, .int i_this_fourHeights, .int i_this_barBits, .int i_this_symbolBars, .int i_this_checkKey])), (a_p0, .inl (cI, n_p0, .inl f_p0)), (a_p2, .inl (cI, n_p2, .inl f_p2))] ∧ va_T .int a_st_BarCodes_Form_FOUR_HEIGHT_ENDS n_st_BarCodes_Form_FOUR_HEIGHT_ENDS (fun j => .int (f_st_BarCodes_Form_FOUR_HEIGHT_ENDS j)) (va_A [(a_this, .inr (2, [.int i_this_kind, .ref a_this_widths, .int i_this_checks, .int i_this_symbols, .int i_this_rowLength, .int i_this_highestBar, .int i_this_fourHeights, .int i_this_barBits, .int i_this_symbolBars, .int i_this_checkKey])), (a_p0, .inl (cI, n_p0, .inl f_p0)), (a_p2, .inl (cI, n_p2, .inl f_p2))] sz) U U.heap ∧ va_T .int a_st_BarCodes_Form_TAG_ENDS n_st_BarCodes_Form_TAG_ENDS (fun j => .int (f_st_BarCodes_Form_TAG_ENDS j)) (va_A [(a_this, .inr (2, [.int i_this_kind, .ref a_this_widths, .int i_this_checks, .int i_this_symbols, .int i_this_rowLength, .int i_this_highestBar, .int i_this_fourHeights, .int i_this_barBits, .int i_this_symbolBars, .int i_this_checkKey])), (a_p0, .inl (cI, n_p0, .inl f_p0)), (a_p2, .inl (cI, n_p2, .inl f_p2))] sz) U U.heap ∧ va_T .int a_st_BarCodes_Square_MASK_SIGNS n_st_BarCodes_Square_MASK_SIGNS (fun j => .int (f_st_BarCodes_Square_MASK_SIGNS j)) (va_A [(a_this, .inr (2, [.int i_this_kind, .ref a_this_widths, .int i_this_checks, .int i_this_symbols, .int i_this_rowLength, .int i_this_highestBar, .int i_this_fourHeights, .int i_this_barBits, .int i_this_symbolBars, .int i_this_checkKey])), (a_p0, .inl (cI, n_p0, .inl f_p0)), (a_p2, .inl (cI, n_p2, .inl f_p2))] sz) U U.heap ∧ va_Z "BarCodes$Form" "FOUR_HEIGHT_ENDS" "[I" (.ref a_st_BarCodes_Form_FOUR_HEIGHT_ENDS) (va_A [(a_this, .inr (2, [.int i_this_kind, .ref a_this_widths, .int i_this_checks, .int i_this_symbols, .int i_this_rowLength, .int i_this_highestBar, .int i_this_fourHeights, .int i_this_barBits, .int i_this_symbolBars, .int i_this_checkKey])), (a_p0, .inl (cI, n_p0, .inl f_p0)), (a_p2, .inl (cI, n_p2, .inl f_p2))] sz) U U.heap ∧ va_Z "BarCodes$Form" "TAG_ENDS" "[I" (.ref a_st_BarCodes_Form_TAG_ENDS) (va_A [(a_this, .inr (2, [.int i_this_kind, .ref a_this_widths, .int i_this_checks, .int i_this_symbols, .int i_this_rowLength, .int i_this_highestBar, .int i_this_fourHeights, .int i_this_barBits, .int i_this_symbolBars, .int i_this_checkKey])), (a_p0, .inl (cI, n_p0, .inl f_p0)), (a_p2, .inl (cI, n_p2, .inl f_p2))] sz) U U.heap ∧ va_Z "BarCodes$Square" "MASK_SIGNS" "[I" (.ref a_st_BarCodes_Square_MASK_SIGNS) (va_A [(a_this, .inr (2, [.int i_this_kind, .ref a_this_widths, .int i_this_checks, .int i_this_symbols, .int i_this_rowLength, .int i_this_highestBar, .int i_this_fourHeights, .int i_this_barBits, .int i_this_symbolBars, .int i_this_checkKey])), (a_p0, .inl (cI, n_p0, .inl f_p0)), (a_p2, .inl (cI, n_p2, .inl f_p2))] sz) U U.heap)) (va_Qv (S := (Nat → Int32)) (fun u9 => u9 = r) (fun u9 t9 => va_P (dC, dI) vwCl [(a_this, .inr (2, [.int i_this_kind, .ref a_this_widths, .int i_this_checks, .int i_this_symbols, .int i_this_rowLength, .int i_this_highestBar, .int i_this_fourHeights, .int i_this_barBits, .int i_this_symbolBars, .int i_this_checkKey])), (a_p0, .inl (cI, n_p0, .inl f_p0)), (a_p2, .inl (cI, n_p2, .inl (u9)))] t9.heap ∧ va_K (dC, dI) vwCl [(cI, .int), (cJ, .long), (cZ, .boolean)] t9 ∧ va_D (va_A [(a_this, .inr (2, [.int i_this_kind, .ref a_this_widths, .int i_this_checks, .int i_this_symbols, .int i_this_rowLength, .int i_this_highestBar, .int i_this_fourHeights, .int i_this_barBits, .int i_this_symbolBars, .int i_this_checkKey])), (a_p0, .inl (cI, n_p0, .inl f_p0)), (a_p2, .inl (cI, n_p2, .inl f_p2))] sz) [(a_this, .inr (2, [.int i_this_kind, .ref a_this_widths, .int i_this_checks, .int i_this_symbols, .int i_this_rowLength, .int i_this_highestBar, .int i_this_fourHeights, .int i_this_barBits, .int i_this_symbolBars, .int i_this_checkKey])), (a_p0, .inl (cI, n_p0, .inl f_p0)), (a_p2, .inl (cI, n_p2, .inl (u9)))]) (va_A [(a_this, .inr (2, [.int i_this_kind, .ref a_this_widths, .int i_this_checks, .int i_this_symbols, .int i_this_rowLength, .int i_this_highestBar, .int i_this_fourHeights, .int i_this_barBits, .int i_this_symbolBars, .int i_this_checkKey])), (a_p0, .inl (cI, n_p0, .inl f_p0)), (a_p2, .inl (cI, n_p2, .inl f_p2))] sz)) 0 0 (va_A [(a_this, .inr (2, [.int i_this_kind, .ref a_this_widths, .int i_this_checks, .int i_this_symbols, .int i_this_rowLength, .int i_this_highestBar, .int i_this_fourHeights, .int i_this_barBits, .int i_this_symbolBars, .int i_this_checkKey])), (a_p0, .inl (cI, n_p0, .inl f_p0)), (a_p2, .inl (cI, n_p2, .inl f_p2))] sz) := by
  refine Met.ofW (cc := cX2_draw) (maxL := 9) (ret := none) (by decide) rfl ?_
  intro p e s m args below meth c s₁ B hml hv
  obtain ⟨eargs, hsz, hP, hK, hD0, hT_st_BarCodes_Form_FOUR_HEIGHT_ENDS, hT_st_BarCodes_Form_TAG_ENDS, hT_st_BarCodes_Square_MASK_SIGNS, hZ_st_BarCodes_Form_FOUR_HEIGHT_ENDS, hZ_st_BarCodes_Form_TAG_ENDS, hZ_st_BarCodes_Square_MASK_SIGNS⟩ := hv
  have hx := B.exec
  have hb := B.bytes
  have hr := B.returns
  have hts := atoms_spec (ws := wsX2_draw) B.pre
  have hown : s.vm.findClass RX2 = some m.cls := findClass_of_methodNamed B.named
  have hlocks := B.notSynchronized
  refine im_Q (fun Q eQ => ?_)
  subst hsz
  have hD := hD0.self (sz := s.heap.size)
  generalize hAe : va_A [(a_this, .inr (2, [.int i_this_kind, .ref a_this_widths, .int i_this_checks, .int i_this_symbols, .int i_this_rowLength, .int i_this_highestBar, .int i_this_fourHeights, .int i_this_barBits, .int i_this_symbolBars, .int i_this_checkKey])), (a_p0, .inl (cI, n_p0, .inl f_p0)), (a_p2, .inl (cI, n_p2, .inl f_p2))] s.heap.size = A at hD eQ hT_st_BarCodes_Form_FOUR_HEIGHT_ENDS hT_st_BarCodes_Form_TAG_ENDS hT_st_BarCodes_Square_MASK_SIGNS hZ_st_BarCodes_Form_FOUR_HEIGHT_ENDS hZ_st_BarCodes_Form_TAG_ENDS hZ_st_BarCodes_Square_MASK_SIGNS
  have hA : ∀ q : Nat, s.heap.size ≤ q → A q := fun q h => by rw [← hAe]; exact Or.inr h
  have hS : va_S A s.heap s.heap [] := va_S.rf
  have hl := lv_entry [.ref a_this, .ref a_p0, .int x1, .ref a_p2] (n := 9) (Nat.le_of_ble_eq_true rfl)
  rw [show entryFrame m args 9 = entryFrame m ([.ref a_this, .ref a_p0, .int x1, .ref a_p2] : List Value).toArray 9 by rw [eargs], lg_entry_eq]
  generalize (lg_sl ([.ref a_this, .ref a_p0, .int x1, .ref a_p2]) ++ List.replicate (9 - (lg_sl ([.ref a_this, .ref a_p0, .int x1, .ref a_p2])).length) Slot.unset).toArray = ls at hl ⊢
  have hl : lv_has ls 9 [(0, .ref a_this), (1, .ref a_p0), (2, .int x1), (3, .ref a_p2)] := hl
  rw [im_X2_draw] at h
  refine lv_iconst (v := (0 : Int32)) hx hb dX2_draw_0 (by decide) ?_
  refine lv_istore (lv' := [(4, .int (0 : Int32)), (0, .ref a_this), (1, .ref a_p0), (2, .int x1), (3, .ref a_p2)]) hx hb dX2_draw_1 hl (by decide) rfl (fun ls hl => ?_)
  refine im_j1_u (P := fun f1 => ∀ (H : Heap) (locs : List Loc) (ls : Array Slot), va_P (dC, dI) vwCl [(a_this, .inr (2, [.int i_this_kind, .ref a_this_widths, .int i_this_checks, .int i_this_symbols, .int i_this_rowLength, .int i_this_highestBar, .int i_this_fourHeights, .int i_this_barBits, .int i_this_symbolBars, .int i_this_checkKey])), (a_p0, .inl (cI, n_p0, .inl f_p0)), (a_p2, .inl (cI, n_p2, .inl f1))] H → va_D A [(a_this, .inr (2, [.int i_this_kind, .ref a_this_widths, .int i_this_checks, .int i_this_symbols, .int i_this_rowLength, .int i_this_highestBar, .int i_this_fourHeights, .int i_this_barBits, .int i_this_symbolBars, .int i_this_checkKey])), (a_p0, .inl (cI, n_p0, .inl f_p0)), (a_p2, .inl (cI, n_p2, .inl f1))] → va_S A s.heap H locs → lv_has ls 9 [(0, .ref a_this), (1, .ref a_p0), (2, .int x1), (3, .ref a_p2)] → W p l e (headSpec wsX2_draw rm_X2_draw).room s m args below meth c H locs 0 0 Q (F0 m 28 ls [])) h (fun f1 h H locs ls hP hD hS hl => ?_) (fun K2 J2 h => ?_)
  · refine lv_iconst (v := (0 : Int32)) hx hb dX2_draw_28 (by decide) ?_
    refine lv_istore (lv' := [(4, .int (0 : Int32)), (0, .ref a_this), (1, .ref a_p0), (2, .int x1), (3, .ref a_p2)]) hx hb dX2_draw_29 hl (by decide) rfl (fun ls hl => ?_)
    refine im_j1_u (P := fun f3 => ∀ (H : Heap) (locs : List Loc) (ls : Array Slot), va_P (dC, dI) vwCl [(a_this, .inr (2, [.int i_this_kind, .ref a_this_widths, .int i_this_checks, .int i_this_symbols, .int i_this_rowLength, .int i_this_highestBar, .int i_this_fourHeights, .int i_this_barBits, .int i_this_symbolBars, .int i_this_checkKey])), (a_p0, .inl (cI, n_p0, .inl f_p0)), (a_p2, .inl (cI, n_p2, .inl f3))] H → va_D A [(a_this, .inr (2, [.int i_this_kind, .ref a_this_widths, .int i_this_checks, .int i_this_symbols, .int i_this_rowLength, .int i_this_highestBar, .int i_this_fourHeights, .int i_this_barBits, .int i_this_symbolBars, .int i_this_checkKey])), (a_p0, .inl (cI, n_p0, .inl f_p0)), (a_p2, .inl (cI, n_p2, .inl f3))] → va_S A s.heap H locs → lv_has ls 9 [(0, .ref a_this), (2, .int x1), (3, .ref a_p2)] → W p l e (headSpec wsX2_draw rm_X2_draw).room s m args below meth c H locs 0 0 Q (F0 m 129 ls [])) h (fun f3 h H locs ls hP hD hS hl => ?_) (fun K4 J4 h => ?_)
    · refine lv_aload_n hx hb dX2_draw_129 rfl (lv_at hl 0 rfl) ?_
      refine va_get (D := (dC, dI)) (ci := 2) (v := .int i_this_kind) (C := RX2) (T := TX2) (N := 10) hx hb hts hn_X2_draw_X2 hown hK hP 0 rfl rfl 0 (by decide) (hts _ fl_X2_draw_11) (fun _ h9 => h9) rfl dX2_draw_130 ?_
      refine lv_iconst (v := (2 : Int32)) hx hb dX2_draw_133 (by decide) ?_
      refine lv_icmp_ne (tgt := 142) hx hb dX2_draw_134 (by decide) (fun c134 => ?_) (fun c134 => ?_)
      · replace h := im_f c134 h
        rw [eQ]
        exact W.vret hx hb hr (fun t ht hW => ⟨⟨f3, rfl, Option.some.inj h, by rw [ht]; exact hP, va_K.moved hW.alike hK, hD⟩, hS.F ht⟩) hS.2.2 dX2_draw_142
      · replace h := im_t c134 h
        refine lv_iload_n hx hb dX2_draw_137 rfl (lv_at hl 1 rfl) ?_
        refine lv_aload_n hx hb dX2_draw_138 rfl (lv_at hl 2 rfl) ?_
        obtain ⟨f5, y139, h⟩ := im_b1_u h
        have hPc := hP.sub (ws' := [(a_p2, .inl (cI, n_p2, .inl f3))]) [2] rfl
        have hDc := hD.sub (ws' := [(a_p2, .inl (cI, n_p2, .inl f3))]) [2] (by decide) rfl
        have hFc := va_free (wc := [(a_p2, .inl (cI, n_p2, .inl f3))]) hD hS hA [2] rfl
        refine va_callv (va_runS (As := [.int x1, .ref a_p2]) (rest := []) ⟨hx, hb, hml, hown, hts⟩ (c_X3_drawMask l dC dI cI cJ cZ H.size a_p2 a_st_BarCodes_Square_MASK_SIGNS n_p2 n_st_BarCodes_Square_MASK_SIGNS f3 f_st_BarCodes_Square_MASK_SIGNS x1 y139) (va_cwS 2 hts gX2_draw_X3_drawMask rfl rfl rfl (by decide +kernel) ⟨Nat.le_of_ble_eq_true rfl, Nat.le_of_ble_eq_true rfl⟩) ⟨fun a U g mk q => by obtain ⟨q0, q1, qP, qK, qD, t0, t1⟩ := q; exact ⟨q0, q1, qP, va_K.moved (u := U) (U := U.calling g mk a) (Vm.Alike.refl U.vm) qK, qD, va_T.moved (u := U) (U := U.calling g mk a) (Vm.Alike.refl U.vm) t0, va_Z.moved (u := U) (U := U.calling g mk a) (Vm.Alike.refl U.vm) t1⟩, fun U hU hW => ⟨rfl, by rw [hU], by rw [hU]; exact hPc, va_K.moved hW.alike hK, hDc.weaken (fun _ _ _ _ => trivial), by rw [hU]; exact va_T.moved hW.alike (va_T.narrow (va_T.kept hT_st_BarCodes_Square_MASK_SIGNS hS.2.1) hFc), by rw [hU]; exact va_Z.moved hW.alike (va_Z.narrow (va_Z.kept hZ_st_BarCodes_Square_MASK_SIGNS hS.2.1) hFc)⟩⟩ rfl rfl hl.1 rfl (lv_room (Nat.le_of_ble_eq_true rfl)) dX2_draw_139 ⟨Nat.zero_le _, Nat.zero_le _⟩) hS (fun q _ h => hFc q h) hFc (fun u9 t9 H1 locs ht9 hvm9 hw9 hB9 hz9 hk9 hS => ?_)
        obtain ⟨hP1, hK1, hD1⟩ := hB9
        rw [ht9] at hP1
        have hw9 := hw9.symm
        subst hw9
        obtain ⟨hP, hD⟩ := va_join (wr := [(a_this, .inr (2, [.int i_this_kind, .ref a_this_widths, .int i_this_checks, .int i_this_symbols, .int i_this_rowLength, .int i_this_highestBar, .int i_this_fourHeights, .int i_this_barBits, .int i_this_symbolBars, .int i_this_checkKey])), (a_p0, .inl (cI, n_p0, .inl f_p0))]) (w1 := [(a_p2, .inl (cI, n_p2, .inl f5))]) hP hD [2] [0, 1] rfl rfl (by decide) (by decide) hk9 hFc hP1 hD1
        generalize H1 = H at hP hS ⊢
        have hP := hP.sub (ws' := [(a_this, .inr (2, [.int i_this_kind, .ref a_this_widths, .int i_this_checks, .int i_this_symbols, .int i_this_rowLength, .int i_this_highestBar, .int i_this_fourHeights, .int i_this_barBits, .int i_this_symbolBars, .int i_this_checkKey])), (a_p0, .inl (cI, n_p0, .inl f_p0)), (a_p2, .inl (cI, n_p2, .inl f5))]) [0, 1, 2] rfl
        have hD := hD.sub (ws' := [(a_this, .inr (2, [.int i_this_kind, .ref a_this_widths, .int i_this_checks, .int i_this_symbols, .int i_this_rowLength, .int i_this_highestBar, .int i_this_fourHeights, .int i_this_barBits, .int i_this_symbolBars, .int i_this_checkKey])), (a_p0, .inl (cI, n_p0, .inl f_p0)), (a_p2, .inl (cI, n_p2, .inl f5))]) [0, 1, 2] (by decide) rfl
        rw [eQ]
        exact W.vret hx hb hr (fun t ht hW => ⟨⟨f5, rfl, Option.some.inj h, by rw [ht]; exact hP, va_K.moved hW.alike hK, hD⟩, hS.F ht⟩) hS.2.2 dX2_draw_142
    · have Lp8 : ∀ (n : Nat) (v6 : Int32) (f7 : Nat → Int32), im_X2_draw_L31 i_this_symbols K4 n_p0 f_p0 i_this_checks i_this_checkKey i_this_symbolBars i_this_kind i_this_barBits i_this_highestBar x1 n_p2 n v6 f7 = some r → ∀ (H : Heap) (locs : List Loc) (ls : Array Slot), va_P (dC, dI) vwCl [(a_this, .inr (2, [.int i_this_kind, .ref a_this_widths, .int i_this_checks, .int i_this_symbols, .int i_this_rowLength, .int i_this_highestBar, .int i_this_fourHeights, .int i_this_barBits, .int i_this_symbolBars, .int i_this_checkKey])), (a_p0, .inl (cI, n_p0, .inl f_p0)), (a_p2, .inl (cI, n_p2, .inl f7))] H → va_D A [(a_this, .inr (2, [.int i_this_kind, .ref a_this_widths, .int i_this_checks, .int i_this_symbols, .int i_this_rowLength, .int i_this_highestBar, .int i_this_fourHeights, .int i_this_barBits, .int i_this_symbolBars, .int i_this_checkKey])), (a_p0, .inl (cI, n_p0, .inl f_p0)), (a_p2, .inl (cI, n_p2, .inl f7))] → va_S A s.heap H locs → lv_has ls 9 [(0, .ref a_this), (1, .ref a_p0), (2, .int x1), (3, .ref a_p2), (4, .int v6)] → W p l e (headSpec wsX2_draw rm_X2_draw).room s m args below meth c H locs 0 0 Q (F0 m 31 ls []) := by
        intro n
        induction n with
        | zero => intro v6 f7 h; rw [im_X2_draw_L31] at h; cases h
        | succ n ih =>
          intro v6 f7 h H locs ls hP hD hS hl
          rw [im_X2_draw_L31] at h
          refine lv_iload hx hb dX2_draw_31 (lv_at hl 4 rfl) ?_
          refine lv_aload_n hx hb dX2_draw_33 rfl (lv_at hl 0 rfl) ?_
          refine va_get (D := (dC, dI)) (ci := 2) (v := .int i_this_symbols) (C := RX2) (T := TX2) (N := 10) hx hb hts hn_X2_draw_X2 hown hK hP 0 rfl rfl 3 (by decide) (hts _ fl_X2_draw_34) (fun _ h9 => h9) rfl dX2_draw_34 ?_
          refine lv_icmp_ge (tgt := 129) hx hb dX2_draw_37 (by decide) (fun c37 => ?_) (fun c37 => ?_)
          · replace h := im_t c37 h
            exact J4 f7 h _ _ _ hP hD hS (lv_sub hl [0, 2, 3] rfl)
          · replace h := im_f c37 h
            refine lv_aload_n hx hb dX2_draw_40 rfl (lv_at hl 1 rfl) ?_
            refine lv_iload hx hb dX2_draw_41 (lv_at hl 4 rfl) ?_
            obtain ⟨q43, h⟩ := im_ld_u h
            refine va_iald hx hb hK hP 1 0 rfl rfl q43 dX2_draw_43 ?_
            refine lv_topi (fun v9 ev9 => ?_)
            replace h := h v9 ev9
            refine lv_aload_n hx hb dX2_draw_44 rfl (lv_at hl 0 rfl) ?_
            refine lv_iload hx hb dX2_draw_45 (lv_at hl 4 rfl) ?_
            obtain ⟨v10, y47, h⟩ := im_b1_u h
            have hPc := hP.sub (ws' := [(a_this, .inr (2, [.int i_this_kind, .ref a_this_widths, .int i_this_checks, .int i_this_symbols, .int i_this_rowLength, .int i_this_highestBar, .int i_this_fourHeights, .int i_this_barBits, .int i_this_symbolBars, .int i_this_checkKey]))]) [0] rfl
            refine vp_callSi (W.runV (As := [.int v6]) (rest := [.int v9]) ⟨hx, hb, hml, hown, hts⟩ (c_X2_keyOf l dC dI cI cJ cZ a_this a_this_widths i_this_kind i_this_checks i_this_symbols i_this_rowLength i_this_highestBar i_this_fourHeights i_this_barBits i_this_symbolBars i_this_checkKey v6 y47) (cwV 1 hts gX2_draw_X2_keyOf rfl rfl rfl (by decide +kernel) ⟨Nat.le_of_ble_eq_true rfl, Nat.le_of_ble_eq_true rfl⟩) ⟨fun a U g mk q => by obtain ⟨q0, qP, qK⟩ := q; exact ⟨q0, qP, va_K.moved (u := U) (U := U.calling g mk a) (Vm.Alike.refl U.vm) qK⟩, va_recv hK hPc (ci := 2) (q0 := 0) rfl rfl, fun U hU hW => ⟨rfl, by rw [hU]; exact hPc, va_K.moved hW.alike hK⟩⟩ rfl rfl hl.1 rfl (lv_room (Nat.le_of_ble_eq_true rfl)) dX2_draw_47 ⟨Nat.zero_le _, Nat.zero_le _⟩) (fun w47 ew47 => ?_)
            have ew47 := ew47.symm
            subst ew47
            refine lv_ixor hx hb dX2_draw_50 ?_
            refine lv_topi (fun v11 ev11 => ?_)
            replace h := im_lt_u h v11 ev11
            refine lv_istore (lv' := [(5, .int v11), (0, .ref a_this), (1, .ref a_p0), (2, .int x1), (3, .ref a_p2), (4, .int v6)]) hx hb dX2_draw_51 hl (by decide) rfl (fun ls hl => ?_)
            refine lv_iconst (v := (0 : Int32)) hx hb dX2_draw_53 (by decide) ?_
            refine lv_istore (lv' := [(6, .int (0 : Int32)), (5, .int v11), (0, .ref a_this), (1, .ref a_p0), (2, .int x1), (3, .ref a_p2), (4, .int v6)]) hx hb dX2_draw_54 hl (by decide) rfl (fun ls hl => ?_)
            refine im_j1_u (P := fun f12 => ∀ (H : Heap) (locs : List Loc) (ls : Array Slot), va_P (dC, dI) vwCl [(a_this, .inr (2, [.int i_this_kind, .ref a_this_widths, .int i_this_checks, .int i_this_symbols, .int i_this_rowLength, .int i_this_highestBar, .int i_this_fourHeights, .int i_this_barBits, .int i_this_symbolBars, .int i_this_checkKey])), (a_p0, .inl (cI, n_p0, .inl f_p0)), (a_p2, .inl (cI, n_p2, .inl f12))] H → va_D A [(a_this, .inr (2, [.int i_this_kind, .ref a_this_widths, .int i_this_checks, .int i_this_symbols, .int i_this_rowLength, .int i_this_highestBar, .int i_this_fourHeights, .int i_this_barBits, .int i_this_symbolBars, .int i_this_checkKey])), (a_p0, .inl (cI, n_p0, .inl f_p0)), (a_p2, .inl (cI, n_p2, .inl f12))] → va_S A s.heap H locs → lv_has ls 9 [(0, .ref a_this), (1, .ref a_p0), (2, .int x1), (3, .ref a_p2), (4, .int v6)] → W p l e (headSpec wsX2_draw rm_X2_draw).room s m args below meth c H locs 0 0 Q (F0 m 123 ls [])) h (fun f12 h H locs ls hP hD hS hl => ?_) (fun K13 J13 h => ?_)
            · obtain ⟨v14, ev14⟩ : ∃ y : Int32, y = (v6 + (1 : Int32)) := ⟨_, rfl⟩
              replace h := im_lt_u h v14 ev14
              refine lv_iinc (v := v14) (lv' := [(4, .int v14), (0, .ref a_this), (1, .ref a_p0), (2, .int x1), (3, .ref a_p2)]) hx hb dX2_draw_123 hl (k := 4) rfl (by rw [ev14]; rfl) (by decide) rfl (fun ls hl => ?_)
              refine lv_goto (tgt := 31) hx hb dX2_draw_126 (by decide) ?_
              exact ih v14 f12 h _ _ _ hP hD hS (lv_sub hl [1, 2, 3, 4, 0] rfl)
            · have Lp17 : ∀ (n : Nat) (v15 : Int32) (f16 : Nat → Int32), im_X2_draw_L56 i_this_symbolBars K13 v6 i_this_kind i_this_barBits v11 i_this_highestBar x1 n_p2 n v15 f16 = some r → ∀ (H : Heap) (locs : List Loc) (ls : Array Slot), va_P (dC, dI) vwCl [(a_this, .inr (2, [.int i_this_kind, .ref a_this_widths, .int i_this_checks, .int i_this_symbols, .int i_this_rowLength, .int i_this_highestBar, .int i_this_fourHeights, .int i_this_barBits, .int i_this_symbolBars, .int i_this_checkKey])), (a_p0, .inl (cI, n_p0, .inl f_p0)), (a_p2, .inl (cI, n_p2, .inl f16))] H → va_D A [(a_this, .inr (2, [.int i_this_kind, .ref a_this_widths, .int i_this_checks, .int i_this_symbols, .int i_this_rowLength, .int i_this_highestBar, .int i_this_fourHeights, .int i_this_barBits, .int i_this_symbolBars, .int i_this_checkKey])), (a_p0, .inl (cI, n_p0, .inl f_p0)), (a_p2, .inl (cI, n_p2, .inl f16))] → va_S A s.heap H locs → lv_has ls 9 [(0, .ref a_this), (1, .ref a_p0), (2, .int x1), (3, .ref a_p2), (4, .int v6), (5, .int v11), (6, .int v15)] → W p l e (headSpec wsX2_draw rm_X2_draw).room s m args below meth c H locs 0 0 Q (F0 m 56 ls []) := by
                intro n
                induction n with
                | zero => intro v15 f16 h; rw [im_X2_draw_L56] at h; cases h
                | succ n ih =>
                  intro v15 f16 h H locs ls hP hD hS hl
                  rw [im_X2_draw_L56] at h
                  refine lv_iload hx hb dX2_draw_56 (lv_at hl 6 rfl) ?_
                  refine lv_aload_n hx hb dX2_draw_58 rfl (lv_at hl 0 rfl) ?_
                  refine va_get (D := (dC, dI)) (ci := 2) (v := .int i_this_symbolBars) (C := RX2) (T := TX2) (N := 10) hx hb hts hn_X2_draw_X2 hown hK hP 0 rfl rfl 8 (by decide) (hts _ fl_X2_draw_44) (fun _ h9 => h9) rfl dX2_draw_59 ?_
                  refine lv_icmp_ge (tgt := 123) hx hb dX2_draw_62 (by decide) (fun c62 => ?_) (fun c62 => ?_)
                  · replace h := im_t c62 h
                    exact J13 f16 h _ _ _ hP hD hS (lv_sub hl [0, 1, 2, 3, 4] rfl)
                  · replace h := im_f c62 h
                    refine lv_aload_n hx hb dX2_draw_65 rfl (lv_at hl 0 rfl) ?_
                    refine lv_iload hx hb dX2_draw_66 (lv_at hl 4 rfl) ?_
                    refine lv_aload_n hx hb dX2_draw_68 rfl (lv_at hl 0 rfl) ?_
                    refine va_get (D := (dC, dI)) (ci := 2) (v := .int i_this_symbolBars) (C := RX2) (T := TX2) (N := 10) hx hb hts hn_X2_draw_X2 hown hK hP 0 rfl rfl 8 (by decide) (hts _ fl_X2_draw_44) (fun _ h9 => h9) rfl dX2_draw_69 ?_
                    refine lv_imul hx hb dX2_draw_72 ?_
                    refine lv_topi (fun v18 ev18 => ?_)
                    replace h := im_lt_u h v18 ev18
                    refine lv_iload hx hb dX2_draw_73 (lv_at hl 6 rfl) ?_
                    refine lv_iadd hx hb dX2_draw_75 ?_
                    refine lv_topi (fun v19 ev19 => ?_)
                    replace h := im_lt_u h v19 ev19
                    obtain ⟨v20, y76, h⟩ := im_b1_u h
                    have hPc := hP.sub (ws' := [(a_this, .inr (2, [.int i_this_kind, .ref a_this_widths, .int i_this_checks, .int i_this_symbols, .int i_this_rowLength, .int i_this_highestBar, .int i_this_fourHeights, .int i_this_barBits, .int i_this_symbolBars, .int i_this_checkKey]))]) [0] rfl
                    refine vp_callSi (W.runV (As := [.int v19]) (rest := []) ⟨hx, hb, hml, hown, hts⟩ (c_X2_placeOf l dC dI cI cJ cZ a_this a_this_widths i_this_kind i_this_checks i_this_symbols i_this_rowLength i_this_highestBar i_this_fourHeights i_this_barBits i_this_symbolBars i_this_checkKey v19 y76) (cwV 1 hts gX2_draw_X2_placeOf rfl rfl rfl (by decide +kernel) ⟨Nat.le_of_ble_eq_true rfl, Nat.le_of_ble_eq_true rfl⟩) ⟨fun a U g mk q => by obtain ⟨q0, qP, qK⟩ := q; exact ⟨q0, qP, va_K.moved (u := U) (U := U.calling g mk a) (Vm.Alike.refl U.vm) qK⟩, va_recv hK hPc (ci := 2) (q0 := 0) rfl rfl, fun U hU hW => ⟨rfl, by rw [hU]; exact hPc, va_K.moved hW.alike hK⟩⟩ rfl rfl hl.1 rfl (lv_room (Nat.le_of_ble_eq_true rfl)) dX2_draw_76 ⟨Nat.zero_le _, Nat.zero_le _⟩) (fun w76 ew76 => ?_)
                    have ew76 := ew76.symm
                    subst ew76
                    refine lv_istore (lv' := [(7, .int v20), (0, .ref a_this), (1, .ref a_p0), (2, .int x1), (3, .ref a_p2), (4, .int v6), (5, .int v11), (6, .int v15)]) hx hb dX2_draw_79 hl (by decide) rfl (fun ls hl => ?_)
                    refine lv_bipush (v := (6 : Int32)) hx hb dX2_draw_81 (by decide) ?_
                    refine lv_iload hx hb dX2_draw_83 (lv_at hl 7 rfl) ?_
                    refine lv_iconst (v := (1 : Int32)) hx hb dX2_draw_85 (by decide) ?_
                    refine lv_iadd hx hb dX2_draw_86 ?_
                    refine lv_topi (fun v21 ev21 => ?_)
                    replace h := im_lt_u h v21 ev21
                    refine lv_aload_n hx hb dX2_draw_87 rfl (lv_at hl 1 rfl) ?_
                    refine va_get (D := (dC, dI)) (ci := 2) (v := .int i_this_barBits) (C := RX2) (T := TX2) (N := 10) hx hb hts hn_X2_draw_X2 hown hK hP 0 rfl rfl 7 (by decide) (hts _ fl_X2_draw_41) (fun _ h9 => h9) rfl dX2_draw_88 ?_
                    refine lv_imul hx hb dX2_draw_91 ?_
                    refine lv_topi (fun v22 ev22 => ?_)
                    replace h := im_lt_u h v22 ev22
                    refine lv_isub hx hb dX2_draw_92 ?_
                    refine lv_topi (fun v23 ev23 => ?_)
                    replace h := im_lt_u h v23 ev23
                    refine lv_istore (lv' := [(8, .int v23), (7, .int v20), (0, .ref a_this), (1, .ref a_p0), (2, .int x1), (3, .ref a_p2), (4, .int v6), (5, .int v11), (6, .int v15)]) hx hb dX2_draw_93 hl (by decide) rfl (fun ls hl => ?_)
                    refine lv_aload_n hx hb dX2_draw_95 rfl (lv_at hl 5 rfl) ?_
                    refine lv_iload hx hb dX2_draw_96 (lv_at hl 1 rfl) ?_
                    refine lv_iload hx hb dX2_draw_98 (lv_at hl 7 rfl) ?_
                    refine lv_iload hx hb dX2_draw_100 (lv_at hl 0 rfl) ?_
                    refine lv_ishr hx hb dX2_draw_102 ?_
                    refine lv_topi (fun v24 ev24 => ?_)
                    replace h := im_lt_u h v24 ev24
                    refine lv_aload_n hx hb dX2_draw_103 rfl (lv_at hl 2 rfl) ?_
                    refine va_get (D := (dC, dI)) (ci := 2) (v := .int i_this_highestBar) (C := RX2) (T := TX2) (N := 10) hx hb hts hn_X2_draw_X2 hown hK hP 0 rfl rfl 5 (by decide) (hts _ fl_X2_draw_47) (fun _ h9 => h9) rfl dX2_draw_104 ?_
                    refine lv_iand hx hb dX2_draw_107 ?_
                    refine lv_topi (fun v25 ev25 => ?_)
                    replace h := im_lt_u h v25 ev25
                    refine lv_aload_n hx hb dX2_draw_108 rfl (lv_at hl 2 rfl) ?_
                    refine lv_iload hx hb dX2_draw_109 (lv_at hl 1 rfl) ?_
                    refine lv_iload_n hx hb dX2_draw_111 rfl (lv_at hl 4 rfl) ?_
                    obtain ⟨v26, y112, h⟩ := im_b1_u h
                    have hPc := hP.sub (ws' := [(a_this, .inr (2, [.int i_this_kind, .ref a_this_widths, .int i_this_checks, .int i_this_symbols, .int i_this_rowLength, .int i_this_highestBar, .int i_this_fourHeights, .int i_this_barBits, .int i_this_symbolBars, .int i_this_checkKey]))]) [0] rfl
                    refine vp_callSi (W.runV (As := [.int v20, .int x1]) (rest := [.int v25, .int v20, .ref a_p2]) ⟨hx, hb, hml, hown, hts⟩ (c_X2_turnAt l dC dI cI cJ cZ a_this a_this_widths i_this_kind i_this_checks i_this_symbols i_this_rowLength i_this_highestBar i_this_fourHeights i_this_barBits i_this_symbolBars i_this_checkKey v20 x1 y112) (cwV 2 hts gX2_draw_X2_turnAt rfl rfl rfl (by decide +kernel) ⟨Nat.le_of_ble_eq_true rfl, Nat.le_of_ble_eq_true rfl⟩) ⟨fun a U g mk q => by obtain ⟨q0, qP, qK⟩ := q; exact ⟨q0, qP, va_K.moved (u := U) (U := U.calling g mk a) (Vm.Alike.refl U.vm) qK⟩, va_recv hK hPc (ci := 2) (q0 := 0) rfl rfl, fun U hU hW => ⟨rfl, by rw [hU]; exact hPc, va_K.moved hW.alike hK⟩⟩ rfl rfl hl.1 rfl (lv_room (Nat.le_of_ble_eq_true rfl)) dX2_draw_112 ⟨Nat.zero_le _, Nat.zero_le _⟩) (fun w112 ew112 => ?_)
                    have ew112 := ew112.symm
                    subst ew112
                    refine lv_ixor hx hb dX2_draw_115 ?_
                    refine lv_topi (fun v27 ev27 => ?_)
                    replace h := im_lt_u h v27 ev27
                    obtain ⟨q116, h⟩ := im_st_u h
                    refine va_iast hx hb hK hP hD hS 2 0 rfl rfl q116 dX2_draw_116 (fun H locs hP hD hS => ?_)
                    obtain ⟨f28, ef28⟩ : ∃ g : Nat → Int32, g = upd f16 v20.toNatClampNeg v27 := ⟨_, rfl⟩
                    replace h := h f28 ef28
                    rw [← ef28] at hP hD
                    have hP : va_P (dC, dI) vwCl [(a_this, .inr (2, [.int i_this_kind, .ref a_this_widths, .int i_this_checks, .int i_this_symbols, .int i_this_rowLength, .int i_this_highestBar, .int i_this_fourHeights, .int i_this_barBits, .int i_this_symbolBars, .int i_this_checkKey])), (a_p0, .inl (cI, n_p0, .inl f_p0)), (a_p2, .inl (cI, n_p2, .inl f28))] H := hP
                    have hD : va_D A [(a_this, .inr (2, [.int i_this_kind, .ref a_this_widths, .int i_this_checks, .int i_this_symbols, .int i_this_rowLength, .int i_this_highestBar, .int i_this_fourHeights, .int i_this_barBits, .int i_this_symbolBars, .int i_this_checkKey])), (a_p0, .inl (cI, n_p0, .inl f_p0)), (a_p2, .inl (cI, n_p2, .inl f28))] := hD
                    obtain ⟨v29, ev29⟩ : ∃ y : Int32, y = (v15 + (1 : Int32)) := ⟨_, rfl⟩
                    replace h := im_lt_u h v29 ev29
                    refine lv_iinc (v := v29) (lv' := [(6, .int v29), (8, .int v23), (7, .int v20), (0, .ref a_this), (1, .ref a_p0), (2, .int x1), (3, .ref a_p2), (4, .int v6), (5, .int v11)]) hx hb dX2_draw_117 hl (k := 8) rfl (by rw [ev29]; rfl) (by decide) rfl (fun ls hl => ?_)
                    refine lv_goto (tgt := 56) hx hb dX2_draw_120 (by decide) ?_
                    exact ih v29 f28 h _ _ _ hP hD hS (lv_sub hl [3, 4, 5, 6, 7, 8, 0] rfl)
              exact Lp17 5000 (0 : Int32) f7 h _ _ _ hP hD hS (lv_sub hl [2, 3, 4, 5, 6, 1, 0] rfl)
      exact Lp8 5000 (0 : Int32) f1 h _ _ _ hP hD hS (lv_sub hl [1, 2, 3, 4, 0] rfl)
  · have Lp32 : ∀ (n : Nat) (v30 : Int32) (f31 : Nat → Int32), im_X2_draw_L3 i_this_rowLength K2 i_this_kind i_this_fourHeights n_st_BarCodes_Form_FOUR_HEIGHT_ENDS n_st_BarCodes_Form_TAG_ENDS f_st_BarCodes_Form_FOUR_HEIGHT_ENDS f_st_BarCodes_Form_TAG_ENDS n_p2 n v30 f31 = some r → ∀ (H : Heap) (locs : List Loc) (ls : Array Slot), va_P (dC, dI) vwCl [(a_this, .inr (2, [.int i_this_kind, .ref a_this_widths, .int i_this_checks, .int i_this_symbols, .int i_this_rowLength, .int i_this_highestBar, .int i_this_fourHeights, .int i_this_barBits, .int i_this_symbolBars, .int i_this_checkKey])), (a_p0, .inl (cI, n_p0, .inl f_p0)), (a_p2, .inl (cI, n_p2, .inl f31))] H → va_D A [(a_this, .inr (2, [.int i_this_kind, .ref a_this_widths, .int i_this_checks, .int i_this_symbols, .int i_this_rowLength, .int i_this_highestBar, .int i_this_fourHeights, .int i_this_barBits, .int i_this_symbolBars, .int i_this_checkKey])), (a_p0, .inl (cI, n_p0, .inl f_p0)), (a_p2, .inl (cI, n_p2, .inl f31))] → va_S A s.heap H locs → lv_has ls 9 [(0, .ref a_this), (1, .ref a_p0), (2, .int x1), (3, .ref a_p2), (4, .int v30)] → W p l e (headSpec wsX2_draw rm_X2_draw).room s m args below meth c H locs 0 0 Q (F0 m 3 ls []) := by
      intro n
      induction n with
      | zero => intro v30 f31 h; rw [im_X2_draw_L3] at h; cases h
      | succ n ih =>
        intro v30 f31 h H locs ls hP hD hS hl
        rw [im_X2_draw_L3] at h
        refine lv_iload hx hb dX2_draw_3 (lv_at hl 4 rfl) ?_
        refine lv_aload_n hx hb dX2_draw_5 rfl (lv_at hl 0 rfl) ?_
        refine va_get (D := (dC, dI)) (ci := 2) (v := .int i_this_rowLength) (C := RX2) (T := TX2) (N := 10) hx hb hts hn_X2_draw_X2 hown hK hP 0 rfl rfl 4 (by decide) (hts _ fl_X2_draw_52) (fun _ h9 => h9) rfl dX2_draw_6 ?_
        refine lv_icmp_ge (tgt := 28) hx hb dX2_draw_9 (by decide) (fun c9 => ?_) (fun c9 => ?_)
        · replace h := im_t c9 h
          exact J2 f31 h _ _ _ hP hD hS (lv_sub hl [0, 1, 2, 3] rfl)
        · replace h := im_f c9 h
          refine lv_aload_n hx hb dX2_draw_12 rfl (lv_at hl 3 rfl) ?_
          refine lv_iload hx hb dX2_draw_13 (lv_at hl 4 rfl) ?_
          refine lv_aload_n hx hb dX2_draw_15 rfl (lv_at hl 0 rfl) ?_
          refine lv_iload hx hb dX2_draw_16 (lv_at hl 4 rfl) ?_
          obtain ⟨v33, y18, h⟩ := im_b1_u h
          have hPc := hP.sub (ws' := [(a_this, .inr (2, [.int i_this_kind, .ref a_this_widths, .int i_this_checks, .int i_this_symbols, .int i_this_rowLength, .int i_this_highestBar, .int i_this_fourHeights, .int i_this_barBits, .int i_this_symbolBars, .int i_this_checkKey]))]) [0] rfl
          refine vp_callSi (W.runV (As := [.int v30]) (rest := [.int v30, .ref a_p2]) ⟨hx, hb, hml, hown, hts⟩ (c_X2_frameAt l dC dI cI cJ cZ a_this a_this_widths a_st_BarCodes_Form_FOUR_HEIGHT_ENDS a_st_BarCodes_Form_TAG_ENDS i_this_kind i_this_checks i_this_symbols i_this_rowLength i_this_highestBar i_this_fourHeights i_this_barBits i_this_symbolBars i_this_checkKey n_st_BarCodes_Form_FOUR_HEIGHT_ENDS n_st_BarCodes_Form_TAG_ENDS f_st_BarCodes_Form_FOUR_HEIGHT_ENDS f_st_BarCodes_Form_TAG_ENDS v30 y18) (cwV 1 hts gX2_draw_X2_frameAt rfl rfl rfl (by decide +kernel) ⟨Nat.le_of_ble_eq_true rfl, Nat.le_of_ble_eq_true rfl⟩) ⟨fun a U g mk q => by obtain ⟨q0, qP, qK, t0, t1, t2, t3⟩ := q; exact ⟨q0, qP, va_K.moved (u := U) (U := U.calling g mk a) (Vm.Alike.refl U.vm) qK, va_T.moved (u := U) (U := U.calling g mk a) (Vm.Alike.refl U.vm) t0, va_T.moved (u := U) (U := U.calling g mk a) (Vm.Alike.refl U.vm) t1, va_Z.moved (u := U) (U := U.calling g mk a) (Vm.Alike.refl U.vm) t2, va_Z.moved (u := U) (U := U.calling g mk a) (Vm.Alike.refl U.vm) t3⟩, va_recv hK hPc (ci := 2) (q0 := 0) rfl rfl, fun U hU hW => ⟨rfl, by rw [hU]; exact hPc, va_K.moved hW.alike hK, by rw [hU]; exact va_T.moved hW.alike (va_T.narrow (va_T.kept hT_st_BarCodes_Form_FOUR_HEIGHT_ENDS hS.2.1) (fun _ h9 => h9.elim)), by rw [hU]; exact va_T.moved hW.alike (va_T.narrow (va_T.kept hT_st_BarCodes_Form_TAG_ENDS hS.2.1) (fun _ h9 => h9.elim)), by rw [hU]; exact va_Z.moved hW.alike (va_Z.narrow (va_Z.kept hZ_st_BarCodes_Form_FOUR_HEIGHT_ENDS hS.2.1) (fun _ h9 => h9.elim)), by rw [hU]; exact va_Z.moved hW.alike (va_Z.narrow (va_Z.kept hZ_st_BarCodes_Form_TAG_ENDS hS.2.1) (fun _ h9 => h9.elim))⟩⟩ rfl rfl hl.1 rfl (lv_room (Nat.le_of_ble_eq_true rfl)) dX2_draw_18 ⟨Nat.zero_le _, Nat.zero_le _⟩) (fun w18 ew18 => ?_)
          have ew18 := ew18.symm
          subst ew18
          obtain ⟨q21, h⟩ := im_st_u h
          refine va_iast hx hb hK hP hD hS 2 0 rfl rfl q21 dX2_draw_21 (fun H locs hP hD hS => ?_)
          obtain ⟨f34, ef34⟩ : ∃ g : Nat → Int32, g = upd f31 v30.toNatClampNeg v33 := ⟨_, rfl⟩
          replace h := h f34 ef34
          rw [← ef34] at hP hD
          have hP : va_P (dC, dI) vwCl [(a_this, .inr (2, [.int i_this_kind, .ref a_this_widths, .int i_this_checks, .int i_this_symbols, .int i_this_rowLength, .int i_this_highestBar, .int i_this_fourHeights, .int i_this_barBits, .int i_this_symbolBars, .int i_this_checkKey])), (a_p0, .inl (cI, n_p0, .inl f_p0)), (a_p2, .inl (cI, n_p2, .inl f34))] H := hP
          have hD : va_D A [(a_this, .inr (2, [.int i_this_kind, .ref a_this_widths, .int i_this_checks, .int i_this_symbols, .int i_this_rowLength, .int i_this_highestBar, .int i_this_fourHeights, .int i_this_barBits, .int i_this_symbolBars, .int i_this_checkKey])), (a_p0, .inl (cI, n_p0, .inl f_p0)), (a_p2, .inl (cI, n_p2, .inl f34))] := hD
          obtain ⟨v35, ev35⟩ : ∃ y : Int32, y = (v30 + (1 : Int32)) := ⟨_, rfl⟩
          replace h := im_lt_u h v35 ev35
          refine lv_iinc (v := v35) (lv' := [(4, .int v35), (0, .ref a_this), (1, .ref a_p0), (2, .int x1), (3, .ref a_p2)]) hx hb dX2_draw_22 hl (k := 4) rfl (by rw [ev35]; rfl) (by decide) rfl (fun ls hl => ?_)
          refine lv_goto (tgt := 3) hx hb dX2_draw_25 (by decide) ?_
          exact ih v35 f34 h _ _ _ hP hD hS (lv_sub hl [1, 2, 3, 4, 0] rfl)
    exact Lp32 5000 (0 : Int32) f_p2 h _ _ _ hP hD hS (lv_sub hl [1, 2, 3, 4, 0] rfl)
def im_X2_takeWord_L24 (i_this_symbolBars : Int32) (K8 : Int32 → (Nat → Int32) → Option ((Nat → Int32) × (Nat → Int32))) (v1 : Int32) (i_this_kind : Int32) (n_p0 : Nat) (f_p0 : Nat → Int32) (n_p3 : Nat) (x1 : Int32) (i_this_barBits : Int32) : Nat → Int32 → Int32 → (Nat → Int32) → Option ((Nat → Int32) × (Nat → Int32))
  | 0, _, _, _ => none
  | n + 1, v17, v18, f19 => if i_this_symbolBars ≤ v18 then (K8 v17 f19) else im_j2 (fun (v21 : Int32) (f22 : Nat → Int32) => im_lt (v18 + (1 : Int32)) (fun v24 => (im_X2_takeWord_L24 i_this_symbolBars K8 v1 i_this_kind n_p0 f_p0 n_p3 x1 i_this_barBits n v21 v24 f22))) (fun K23 => im_lt (v1 * i_this_symbolBars) (fun v25 => im_lt (v25 + v18) (fun v26 => im_b1 (im_X2_placeOf v26 i_this_kind) (fun v27 => im_ld n_p0 f_p0 v27 (fun v28 => if v28 = (-1 : Int32) then im_st n_p3 f19 v1 (1 : Int32) (fun f37 => (K23 v17 f37)) else im_ld n_p0 f_p0 v27 (fun v29 => im_b1 (im_X2_turnAt v27 x1 i_this_kind) (fun v30 => im_lt (v29 ^^^ v30) (fun v31 => im_lt (v18 + (1 : Int32)) (fun v32 => im_lt (v32 * i_this_barBits) (fun v33 => im_lt ((6 : Int32) - v33) (fun v34 => im_lt (v31 <<< (v34 &&& 31)) (fun v35 => im_lt (v17 ||| v35) (fun v36 => (K23 v36 f19))))))))))))))
def im_X2_takeWord_L3 (i_this_symbols : Int32) (n_p3 : Nat) (n_p2 : Nat) (i_this_checks : Int32) (i_this_checkKey : Int32) (i_this_symbolBars : Int32) (i_this_kind : Int32) (n_p0 : Nat) (f_p0 : Nat → Int32) (x1 : Int32) (i_this_barBits : Int32) : Nat → Int32 → (Nat → Int32) → (Nat → Int32) → Option ((Nat → Int32) × (Nat → Int32))
  | 0, _, _, _ => none
  | n + 1, v1, f2, f3 => if i_this_symbols ≤ v1 then (some (f2, f3)) else im_st n_p3 f3 v1 (0 : Int32) (fun f5 => im_j2 (fun (v6 : Int32) (f7 : Nat → Int32) => im_j2 (fun (v9 : Int32) (v10 : Int32) => im_st n_p2 f2 v10 v9 (fun f12 => im_lt (v1 + (1 : Int32)) (fun v13 => (im_X2_takeWord_L3 i_this_symbols n_p3 n_p2 i_this_checks i_this_checkKey i_this_symbolBars i_this_kind n_p0 f_p0 x1 i_this_barBits n v13 f12 f7)))) (fun K11 => im_ld n_p3 f7 v1 (fun v14 => if v14 = 0 then im_b1 (im_X2_keyOf v1 i_this_checks i_this_symbols i_this_checkKey) (fun v15 => im_lt (v6 ^^^ v15) (fun v16 => (K11 v16 v1))) else (K11 (0 : Int32) v1)))) (fun K8 => (im_X2_takeWord_L24 i_this_symbolBars K8 v1 i_this_kind n_p0 f_p0 n_p3 x1 i_this_barBits 5000 (0 : Int32) (0 : Int32) f5)))
def im_X2_takeWord (x1 : Int32) (i_this_kind : Int32) (i_this_checks : Int32) (i_this_symbols : Int32) (i_this_barBits : Int32) (i_this_symbolBars : Int32) (i_this_checkKey : Int32) (n_p0 : Nat) (n_p2 : Nat) (n_p3 : Nat) (f_p0 : Nat → Int32) (f_p2 : Nat → Int32) (f_p3 : Nat → Int32) : Option ((Nat → Int32) × (Nat → Int32)) := (im_X2_takeWord_L3 i_this_symbols n_p3 n_p2 i_this_checks i_this_checkKey i_this_symbolBars i_this_kind n_p0 f_p0 x1 i_this_barBits 5000 (0 : Int32) f_p2 f_p3)
abbrev rm_X2_takeWord : Room := { frames := 2, cells := 0, slots := 0, locals := 45 }
theorem hn_X2_takeWord_X2 : ∀ w ∈ wsX20, w ∈ wsX2_takeWord := by decide +kernel
theorem fl_X2_takeWord_34 : Cond.fieldLink RX2 34 "BarCodes$Form" "symbols" "I" ∈ wsX2_takeWord := by decide +kernel
theorem fl_X2_takeWord_44 : Cond.fieldLink RX2 44 "BarCodes$Form" "symbolBars" "I" ∈ wsX2_takeWord := by decide +kernel
theorem fl_X2_takeWord_41 : Cond.fieldLink RX2 41 "BarCodes$Form" "barBits" "I" ∈ wsX2_takeWord := by decide +kernel
set_option maxHeartbeats 4000000 in
set_option maxRecDepth 100000 in
theorem c_X2_takeWord (l : Launch) (dC : Nat → ClassId) (dI : Nat → Nat → Nat) (cI cJ cZ : ClassId) (sz : Nat) (a_this a_this_widths a_p0 a_p2 a_p3 : Nat) (i_this_kind i_this_checks i_this_symbols i_this_rowLength i_this_highestBar i_this_fourHeights i_this_barBits i_this_symbolBars i_this_checkKey : Int32) (n_p0 n_p2 n_p3 : Nat) (f_p0 : Nat → Int32) (f_p2 : Nat → Int32) (f_p3 : Nat → Int32) (x1 : Int32) {r : (Nat → Int32) × (Nat → Int32)} (h : im_X2_takeWord x1 i_this_kind i_this_checks i_this_symbols i_this_barBits i_this_symbolBars i_this_checkKey n_p0 n_p2 n_p3 f_p0 f_p2 f_p3 = some r) : Met l yX2_takeWord wsX2_takeWord rm_X2_takeWord (va_Pc [.ref a_this, .ref a_p0, .int x1, .ref a_p2, .ref a_p3] (fun U => U.heap.size = sz ∧ va_P (dC, dI) vwCl [(a_this, .inr (2, [.int i_this_kind, .ref a_this_widths, .int i_this_checks, .int i_this_symbols, .int i_this_rowLength, .int i_this_highestBar, .int i_this_fourHeights, .int i_this_barBits, .int i_this_symbolBars, .int i_this_checkKey])), (a_p0, .inl (cI, n_p0, .inl f_p0)), (a_p2, .inl (cI, n_p2, .inl f_p2)), (a_p3, .inl (cZ, n_p3, .inl f_p3))] U.heap ∧ va_K (dC, dI) vwCl [(cI, .int), (cJ, .long), (cZ, .boolean)] U ∧ va_D (fun _ => True) [(a_this, .inr (2, [.int i_this_kind, .ref a_this_widths, .int i_this_checks, .int i_this_symbols, .int i_this_rowLength, .int i_this_highestBar, .int i_this_fourHeights, .int i_this_barBits, .int i_this_symbolBars, .int i_this_checkKey])), (a_p0, .inl (cI, n_p0, .inl f_p0)), (a_p2, .inl (cI, n_p2, .inl f_p2)), (a_p3, .inl (cZ, n_p3, .inl f_p3))])) (va_Qv (S := (Nat → Int32) × (Nat → Int32)) (fun u9 => u9 = r) (fun u9 t9 => va_P (dC, dI) vwCl [(a_this, .inr (2, [.int i_this_kind, .ref a_this_widths, .int i_this_checks, .int i_this_symbols, .int i_this_rowLength, .int i_this_highestBar, .int i_this_fourHeights, .int i_this_barBits, .int i_this_symbolBars, .int i_this_checkKey])), (a_p0, .inl (cI, n_p0, .inl f_p0)), (a_p2, .inl (cI, n_p2, .inl (u9.1))), (a_p3, .inl (cZ, n_p3, .inl (u9.2)))] t9.heap ∧ va_K (dC, dI) vwCl [(cI, .int), (cJ, .long), (cZ, .boolean)] t9 ∧ va_D (va_A [(a_this, .inr (2, [.int i_this_kind, .ref a_this_widths, .int i_this_checks, .int i_this_symbols, .int i_this_rowLength, .int i_this_highestBar, .int i_this_fourHeights, .int i_this_barBits, .int i_this_symbolBars, .int i_this_checkKey])), (a_p0, .inl (cI, n_p0, .inl f_p0)), (a_p2, .inl (cI, n_p2, .inl f_p2)), (a_p3, .inl (cZ, n_p3, .inl f_p3))] sz) [(a_this, .inr (2, [.int i_this_kind, .ref a_this_widths, .int i_this_checks, .int i_this_symbols, .int i_this_rowLength, .int i_this_highestBar, .int i_this_fourHeights, .int i_this_barBits, .int i_this_symbolBars, .int i_this_checkKey])), (a_p0, .inl (cI, n_p0, .inl f_p0)), (a_p2, .inl (cI, n_p2, .inl (u9.1))), (a_p3, .inl (cZ, n_p3, .inl (u9.2)))]) (va_A [(a_this, .inr (2, [.int i_this_kind, .ref a_this_widths, .int i_this_checks, .int i_this_symbols, .int i_this_rowLength, .int i_this_highestBar, .int i_this_fourHeights, .int i_this_barBits, .int i_this_symbolBars, .int i_this_checkKey])), (a_p0, .inl (cI, n_p0, .inl f_p0)), (a_p2, .inl (cI, n_p2, .inl f_p2)), (a_p3, .inl (cZ, n_p3, .inl f_p3))] sz)) 0 0 (va_A [(a_this, .inr (2, [.int i_this_kind, .ref a_this_widths, .int i_this_checks, .int i_this_symbols, .int i_this_rowLength, .int i_this_highestBar, .int i_this_fourHeights, .int i_this_barBits, .int i_this_symbolBars, .int i_this_checkKey])), (a_p0, .inl (cI, n_p0, .inl f_p0)), (a_p2, .inl (cI, n_p2, .inl f_p2)), (a_p3, .inl (cZ, n_p3, .inl f_p3))] sz) := by
  refine Met.ofW (cc := cX2_takeWord) (maxL := 9) (ret := none) (by decide) rfl ?_
  intro p e s m args below meth c s₁ B hml hv
  obtain ⟨eargs, hsz, hP, hK, hD0⟩ := hv
  have hx := B.exec
  have hb := B.bytes
  have hr := B.returns
  have hts := atoms_spec (ws := wsX2_takeWord) B.pre
  have hown : s.vm.findClass RX2 = some m.cls := findClass_of_methodNamed B.named
  have hlocks := B.notSynchronized
  refine im_Q (fun Q eQ => ?_)
  subst hsz
  have hD := hD0.self (sz := s.heap.size)
  generalize hAe : va_A [(a_this, .inr (2, [.int i_this_kind, .ref a_this_widths, .int i_this_checks, .int i_this_symbols, .int i_this_rowLength, .int i_this_highestBar, .int i_this_fourHeights, .int i_this_barBits, .int i_this_symbolBars, .int i_this_checkKey])), (a_p0, .inl (cI, n_p0, .inl f_p0)), (a_p2, .inl (cI, n_p2, .inl f_p2)), (a_p3, .inl (cZ, n_p3, .inl f_p3))] s.heap.size = A at hD eQ
  have hA : ∀ q : Nat, s.heap.size ≤ q → A q := fun q h => by rw [← hAe]; exact Or.inr h
  have hS : va_S A s.heap s.heap [] := va_S.rf
  have hl := lv_entry [.ref a_this, .ref a_p0, .int x1, .ref a_p2, .ref a_p3] (n := 9) (Nat.le_of_ble_eq_true rfl)
  rw [show entryFrame m args 9 = entryFrame m ([.ref a_this, .ref a_p0, .int x1, .ref a_p2, .ref a_p3] : List Value).toArray 9 by rw [eargs], lg_entry_eq]
  generalize (lg_sl ([.ref a_this, .ref a_p0, .int x1, .ref a_p2, .ref a_p3]) ++ List.replicate (9 - (lg_sl ([.ref a_this, .ref a_p0, .int x1, .ref a_p2, .ref a_p3])).length) Slot.unset).toArray = ls at hl ⊢
  have hl : lv_has ls 9 [(0, .ref a_this), (1, .ref a_p0), (2, .int x1), (3, .ref a_p2), (4, .ref a_p3)] := hl
  rw [im_X2_takeWord] at h
  refine lv_iconst (v := (0 : Int32)) hx hb dX2_takeWord_0 (by decide) ?_
  refine lv_istore (lv' := [(5, .int (0 : Int32)), (0, .ref a_this), (1, .ref a_p0), (2, .int x1), (3, .ref a_p2), (4, .ref a_p3)]) hx hb dX2_takeWord_1 hl (by decide) rfl (fun ls hl => ?_)
  have Lp4 : ∀ (n : Nat) (v1 : Int32) (f2 : Nat → Int32) (f3 : Nat → Int32), im_X2_takeWord_L3 i_this_symbols n_p3 n_p2 i_this_checks i_this_checkKey i_this_symbolBars i_this_kind n_p0 f_p0 x1 i_this_barBits n v1 f2 f3 = some r → ∀ (H : Heap) (locs : List Loc) (ls : Array Slot), va_P (dC, dI) vwCl [(a_this, .inr (2, [.int i_this_kind, .ref a_this_widths, .int i_this_checks, .int i_this_symbols, .int i_this_rowLength, .int i_this_highestBar, .int i_this_fourHeights, .int i_this_barBits, .int i_this_symbolBars, .int i_this_checkKey])), (a_p0, .inl (cI, n_p0, .inl f_p0)), (a_p2, .inl (cI, n_p2, .inl f2)), (a_p3, .inl (cZ, n_p3, .inl f3))] H → va_D A [(a_this, .inr (2, [.int i_this_kind, .ref a_this_widths, .int i_this_checks, .int i_this_symbols, .int i_this_rowLength, .int i_this_highestBar, .int i_this_fourHeights, .int i_this_barBits, .int i_this_symbolBars, .int i_this_checkKey])), (a_p0, .inl (cI, n_p0, .inl f_p0)), (a_p2, .inl (cI, n_p2, .inl f2)), (a_p3, .inl (cZ, n_p3, .inl f3))] → va_S A s.heap H locs → lv_has ls 9 [(0, .ref a_this), (1, .ref a_p0), (2, .int x1), (3, .ref a_p2), (4, .ref a_p3), (5, .int v1)] → W p l e (headSpec wsX2_takeWord rm_X2_takeWord).room s m args below meth c H locs 0 0 Q (F0 m 3 ls []) := by
    intro n
    induction n with
    | zero => intro v1 f2 f3 h; rw [im_X2_takeWord_L3] at h; cases h
    | succ n ih =>
      intro v1 f2 f3 h H locs ls hP hD hS hl
      rw [im_X2_takeWord_L3] at h
      refine lv_iload hx hb dX2_takeWord_3 (lv_at hl 5 rfl) ?_
      refine lv_aload_n hx hb dX2_takeWord_5 rfl (lv_at hl 0 rfl) ?_
      refine va_get (D := (dC, dI)) (ci := 2) (v := .int i_this_symbols) (C := RX2) (T := TX2) (N := 10) hx hb hts hn_X2_takeWord_X2 hown hK hP 0 rfl rfl 3 (by decide) (hts _ fl_X2_takeWord_34) (fun _ h9 => h9) rfl dX2_takeWord_6 ?_
      refine lv_icmp_ge (tgt := 133) hx hb dX2_takeWord_9 (by decide) (fun c9 => ?_) (fun c9 => ?_)
      · replace h := im_t c9 h
        rw [eQ]
        exact W.vret hx hb hr (fun t ht hW => ⟨⟨(f2, f3), rfl, Option.some.inj h, by rw [ht]; exact hP, va_K.moved hW.alike hK, hD⟩, hS.F ht⟩) hS.2.2 dX2_takeWord_133
      · replace h := im_f c9 h
        refine lv_iconst (v := (0 : Int32)) hx hb dX2_takeWord_12 (by decide) ?_
        refine lv_istore (lv' := [(6, .int (0 : Int32)), (0, .ref a_this), (1, .ref a_p0), (2, .int x1), (3, .ref a_p2), (4, .ref a_p3), (5, .int v1)]) hx hb dX2_takeWord_13 hl (by decide) rfl (fun ls hl => ?_)
        refine lv_aload hx hb dX2_takeWord_15 (lv_at hl 5 rfl) ?_
        refine lv_iload hx hb dX2_takeWord_17 (lv_at hl 6 rfl) ?_
        refine lv_iconst (v := (0 : Int32)) hx hb dX2_takeWord_19 (by decide) ?_
        obtain ⟨q20, h⟩ := im_st_u h
        refine va_zast hx hb hK hP hD hS 3 2 rfl rfl q20 dX2_takeWord_20 (fun H locs hP hD hS => ?_)
        obtain ⟨f5, ef5⟩ : ∃ g : Nat → Int32, g = upd f3 v1.toNatClampNeg (0 : Int32) := ⟨_, rfl⟩
        replace h := h f5 ef5
        rw [im_nb (by decide), ← ef5] at hP hD
        have hP : va_P (dC, dI) vwCl [(a_this, .inr (2, [.int i_this_kind, .ref a_this_widths, .int i_this_checks, .int i_this_symbols, .int i_this_rowLength, .int i_this_highestBar, .int i_this_fourHeights, .int i_this_barBits, .int i_this_symbolBars, .int i_this_checkKey])), (a_p0, .inl (cI, n_p0, .inl f_p0)), (a_p2, .inl (cI, n_p2, .inl f2)), (a_p3, .inl (cZ, n_p3, .inl f5))] H := hP
        have hD : va_D A [(a_this, .inr (2, [.int i_this_kind, .ref a_this_widths, .int i_this_checks, .int i_this_symbols, .int i_this_rowLength, .int i_this_highestBar, .int i_this_fourHeights, .int i_this_barBits, .int i_this_symbolBars, .int i_this_checkKey])), (a_p0, .inl (cI, n_p0, .inl f_p0)), (a_p2, .inl (cI, n_p2, .inl f2)), (a_p3, .inl (cZ, n_p3, .inl f5))] := hD
        refine lv_iconst (v := (0 : Int32)) hx hb dX2_takeWord_21 (by decide) ?_
        refine lv_istore (lv' := [(7, .int (0 : Int32)), (6, .int (0 : Int32)), (0, .ref a_this), (1, .ref a_p0), (2, .int x1), (3, .ref a_p2), (4, .ref a_p3), (5, .int v1)]) hx hb dX2_takeWord_22 hl (by decide) rfl (fun ls hl => ?_)
        refine im_j2_u (P := fun v6 f7 => ∀ (H : Heap) (locs : List Loc) (ls : Array Slot), va_P (dC, dI) vwCl [(a_this, .inr (2, [.int i_this_kind, .ref a_this_widths, .int i_this_checks, .int i_this_symbols, .int i_this_rowLength, .int i_this_highestBar, .int i_this_fourHeights, .int i_this_barBits, .int i_this_symbolBars, .int i_this_checkKey])), (a_p0, .inl (cI, n_p0, .inl f_p0)), (a_p2, .inl (cI, n_p2, .inl f2)), (a_p3, .inl (cZ, n_p3, .inl f7))] H → va_D A [(a_this, .inr (2, [.int i_this_kind, .ref a_this_widths, .int i_this_checks, .int i_this_symbols, .int i_this_rowLength, .int i_this_highestBar, .int i_this_fourHeights, .int i_this_barBits, .int i_this_symbolBars, .int i_this_checkKey])), (a_p0, .inl (cI, n_p0, .inl f_p0)), (a_p2, .inl (cI, n_p2, .inl f2)), (a_p3, .inl (cZ, n_p3, .inl f7))] → va_S A s.heap H locs → lv_has ls 9 [(0, .ref a_this), (1, .ref a_p0), (2, .int x1), (3, .ref a_p2), (4, .ref a_p3), (5, .int v1), (6, .int v6)] → W p l e (headSpec wsX2_takeWord rm_X2_takeWord).room s m args below meth c H locs 0 0 Q (F0 m 102 ls [])) h (fun v6 f7 h H locs ls hP hD hS hl => ?_) (fun K8 J8 h => ?_)
        · refine im_j2_u (P := fun v9 v10 => ∀ (H : Heap) (locs : List Loc) (ls : Array Slot), va_P (dC, dI) vwCl [(a_this, .inr (2, [.int i_this_kind, .ref a_this_widths, .int i_this_checks, .int i_this_symbols, .int i_this_rowLength, .int i_this_highestBar, .int i_this_fourHeights, .int i_this_barBits, .int i_this_symbolBars, .int i_this_checkKey])), (a_p0, .inl (cI, n_p0, .inl f_p0)), (a_p2, .inl (cI, n_p2, .inl f2)), (a_p3, .inl (cZ, n_p3, .inl f7))] H → va_D A [(a_this, .inr (2, [.int i_this_kind, .ref a_this_widths, .int i_this_checks, .int i_this_symbols, .int i_this_rowLength, .int i_this_highestBar, .int i_this_fourHeights, .int i_this_barBits, .int i_this_symbolBars, .int i_this_checkKey])), (a_p0, .inl (cI, n_p0, .inl f_p0)), (a_p2, .inl (cI, n_p2, .inl f2)), (a_p3, .inl (cZ, n_p3, .inl f7))] → va_S A s.heap H locs → lv_has ls 9 [(0, .ref a_this), (1, .ref a_p0), (2, .int x1), (3, .ref a_p2), (4, .ref a_p3), (5, .int v1)] → W p l e (headSpec wsX2_takeWord rm_X2_takeWord).room s m args below meth c H locs 0 0 Q (F0 m 126 ls [.int v9, .int v10, .ref a_p2])) h (fun v9 v10 h H locs ls hP hD hS hl => ?_) (fun K11 J11 h => ?_)
          · obtain ⟨q126, h⟩ := im_st_u h
            refine va_iast hx hb hK hP hD hS 2 0 rfl rfl q126 dX2_takeWord_126 (fun H locs hP hD hS => ?_)
            obtain ⟨f12, ef12⟩ : ∃ g : Nat → Int32, g = upd f2 v10.toNatClampNeg v9 := ⟨_, rfl⟩
            replace h := h f12 ef12
            rw [← ef12] at hP hD
            have hP : va_P (dC, dI) vwCl [(a_this, .inr (2, [.int i_this_kind, .ref a_this_widths, .int i_this_checks, .int i_this_symbols, .int i_this_rowLength, .int i_this_highestBar, .int i_this_fourHeights, .int i_this_barBits, .int i_this_symbolBars, .int i_this_checkKey])), (a_p0, .inl (cI, n_p0, .inl f_p0)), (a_p2, .inl (cI, n_p2, .inl f12)), (a_p3, .inl (cZ, n_p3, .inl f7))] H := hP
            have hD : va_D A [(a_this, .inr (2, [.int i_this_kind, .ref a_this_widths, .int i_this_checks, .int i_this_symbols, .int i_this_rowLength, .int i_this_highestBar, .int i_this_fourHeights, .int i_this_barBits, .int i_this_symbolBars, .int i_this_checkKey])), (a_p0, .inl (cI, n_p0, .inl f_p0)), (a_p2, .inl (cI, n_p2, .inl f12)), (a_p3, .inl (cZ, n_p3, .inl f7))] := hD
            obtain ⟨v13, ev13⟩ : ∃ y : Int32, y = (v1 + (1 : Int32)) := ⟨_, rfl⟩
            replace h := im_lt_u h v13 ev13
            refine lv_iinc (v := v13) (lv' := [(5, .int v13), (0, .ref a_this), (1, .ref a_p0), (2, .int x1), (3, .ref a_p2), (4, .ref a_p3)]) hx hb dX2_takeWord_127 hl (k := 5) rfl (by rw [ev13]; rfl) (by decide) rfl (fun ls hl => ?_)
            refine lv_goto (tgt := 3) hx hb dX2_takeWord_130 (by decide) ?_
            exact ih v13 f12 f7 h _ _ _ hP hD hS (lv_sub hl [1, 2, 3, 4, 5, 0] rfl)
          · refine lv_aload_n hx hb dX2_takeWord_102 rfl (lv_at hl 3 rfl) ?_
            refine lv_iload hx hb dX2_takeWord_103 (lv_at hl 5 rfl) ?_
            refine lv_aload hx hb dX2_takeWord_105 (lv_at hl 4 rfl) ?_
            refine lv_iload hx hb dX2_takeWord_107 (lv_at hl 5 rfl) ?_
            obtain ⟨q109, h⟩ := im_ld_u h
            refine va_zald hx hb hK hP 3 2 rfl rfl q109 dX2_takeWord_109 ?_
            refine lv_topi (fun v14 ev14 => ?_)
            replace h := h v14 ev14
            refine lv_if_eq (tgt := 117) hx hb dX2_takeWord_110 (by decide) (fun c110 => ?_) (fun c110 => ?_)
            · replace h := im_t c110 h
              refine lv_iload hx hb dX2_takeWord_117 (lv_at hl 6 rfl) ?_
              refine lv_aload_n hx hb dX2_takeWord_119 rfl (lv_at hl 0 rfl) ?_
              refine lv_iload hx hb dX2_takeWord_120 (lv_at hl 5 rfl) ?_
              obtain ⟨v15, y122, h⟩ := im_b1_u h
              have hPc := hP.sub (ws' := [(a_this, .inr (2, [.int i_this_kind, .ref a_this_widths, .int i_this_checks, .int i_this_symbols, .int i_this_rowLength, .int i_this_highestBar, .int i_this_fourHeights, .int i_this_barBits, .int i_this_symbolBars, .int i_this_checkKey]))]) [0] rfl
              refine vp_callSi (W.runV (As := [.int v1]) (rest := [.int v6, .int v1, .ref a_p2]) ⟨hx, hb, hml, hown, hts⟩ (c_X2_keyOf l dC dI cI cJ cZ a_this a_this_widths i_this_kind i_this_checks i_this_symbols i_this_rowLength i_this_highestBar i_this_fourHeights i_this_barBits i_this_symbolBars i_this_checkKey v1 y122) (cwV 1 hts gX2_takeWord_X2_keyOf rfl rfl rfl (by decide +kernel) ⟨Nat.le_of_ble_eq_true rfl, Nat.le_of_ble_eq_true rfl⟩) ⟨fun a U g mk q => by obtain ⟨q0, qP, qK⟩ := q; exact ⟨q0, qP, va_K.moved (u := U) (U := U.calling g mk a) (Vm.Alike.refl U.vm) qK⟩, va_recv hK hPc (ci := 2) (q0 := 0) rfl rfl, fun U hU hW => ⟨rfl, by rw [hU]; exact hPc, va_K.moved hW.alike hK⟩⟩ rfl rfl hl.1 rfl (lv_room (Nat.le_of_ble_eq_true rfl)) dX2_takeWord_122 ⟨Nat.zero_le _, Nat.zero_le _⟩) (fun w122 ew122 => ?_)
              have ew122 := ew122.symm
              subst ew122
              refine lv_ixor hx hb dX2_takeWord_125 ?_
              refine lv_topi (fun v16 ev16 => ?_)
              replace h := im_lt_u h v16 ev16
              exact J11 v16 v1 h _ _ _ hP hD hS (lv_sub hl [0, 1, 2, 3, 4, 5] rfl)
            · replace h := im_f c110 h
              refine lv_iconst (v := (0 : Int32)) hx hb dX2_takeWord_113 (by decide) ?_
              refine lv_goto (tgt := 126) hx hb dX2_takeWord_114 (by decide) ?_
              exact J11 (0 : Int32) v1 h _ _ _ hP hD hS (lv_sub hl [0, 1, 2, 3, 4, 5] rfl)
        · have Lp20 : ∀ (n : Nat) (v17 : Int32) (v18 : Int32) (f19 : Nat → Int32), im_X2_takeWord_L24 i_this_symbolBars K8 v1 i_this_kind n_p0 f_p0 n_p3 x1 i_this_barBits n v17 v18 f19 = some r → ∀ (H : Heap) (locs : List Loc) (ls : Array Slot), va_P (dC, dI) vwCl [(a_this, .inr (2, [.int i_this_kind, .ref a_this_widths, .int i_this_checks, .int i_this_symbols, .int i_this_rowLength, .int i_this_highestBar, .int i_this_fourHeights, .int i_this_barBits, .int i_this_symbolBars, .int i_this_checkKey])), (a_p0, .inl (cI, n_p0, .inl f_p0)), (a_p2, .inl (cI, n_p2, .inl f2)), (a_p3, .inl (cZ, n_p3, .inl f19))] H → va_D A [(a_this, .inr (2, [.int i_this_kind, .ref a_this_widths, .int i_this_checks, .int i_this_symbols, .int i_this_rowLength, .int i_this_highestBar, .int i_this_fourHeights, .int i_this_barBits, .int i_this_symbolBars, .int i_this_checkKey])), (a_p0, .inl (cI, n_p0, .inl f_p0)), (a_p2, .inl (cI, n_p2, .inl f2)), (a_p3, .inl (cZ, n_p3, .inl f19))] → va_S A s.heap H locs → lv_has ls 9 [(0, .ref a_this), (1, .ref a_p0), (2, .int x1), (3, .ref a_p2), (4, .ref a_p3), (5, .int v1), (6, .int v17), (7, .int v18)] → W p l e (headSpec wsX2_takeWord rm_X2_takeWord).room s m args below meth c H locs 0 0 Q (F0 m 24 ls []) := by
            intro n
            induction n with
            | zero => intro v17 v18 f19 h; rw [im_X2_takeWord_L24] at h; cases h
            | succ n ih =>
              intro v17 v18 f19 h H locs ls hP hD hS hl
              rw [im_X2_takeWord_L24] at h
              refine lv_iload hx hb dX2_takeWord_24 (lv_at hl 7 rfl) ?_
              refine lv_aload_n hx hb dX2_takeWord_26 rfl (lv_at hl 0 rfl) ?_
              refine va_get (D := (dC, dI)) (ci := 2) (v := .int i_this_symbolBars) (C := RX2) (T := TX2) (N := 10) hx hb hts hn_X2_takeWord_X2 hown hK hP 0 rfl rfl 8 (by decide) (hts _ fl_X2_takeWord_44) (fun _ h9 => h9) rfl dX2_takeWord_27 ?_
              refine lv_icmp_ge (tgt := 102) hx hb dX2_takeWord_30 (by decide) (fun c30 => ?_) (fun c30 => ?_)
              · replace h := im_t c30 h
                exact J8 v17 f19 h _ _ _ hP hD hS (lv_sub hl [0, 1, 2, 3, 4, 5, 6] rfl)
              · replace h := im_f c30 h
                refine im_j2_u (P := fun v21 f22 => ∀ (H : Heap) (locs : List Loc) (ls : Array Slot), va_P (dC, dI) vwCl [(a_this, .inr (2, [.int i_this_kind, .ref a_this_widths, .int i_this_checks, .int i_this_symbols, .int i_this_rowLength, .int i_this_highestBar, .int i_this_fourHeights, .int i_this_barBits, .int i_this_symbolBars, .int i_this_checkKey])), (a_p0, .inl (cI, n_p0, .inl f_p0)), (a_p2, .inl (cI, n_p2, .inl f2)), (a_p3, .inl (cZ, n_p3, .inl f22))] H → va_D A [(a_this, .inr (2, [.int i_this_kind, .ref a_this_widths, .int i_this_checks, .int i_this_symbols, .int i_this_rowLength, .int i_this_highestBar, .int i_this_fourHeights, .int i_this_barBits, .int i_this_symbolBars, .int i_this_checkKey])), (a_p0, .inl (cI, n_p0, .inl f_p0)), (a_p2, .inl (cI, n_p2, .inl f2)), (a_p3, .inl (cZ, n_p3, .inl f22))] → va_S A s.heap H locs → lv_has ls 9 [(0, .ref a_this), (1, .ref a_p0), (2, .int x1), (3, .ref a_p2), (4, .ref a_p3), (5, .int v1), (6, .int v21), (7, .int v18)] → W p l e (headSpec wsX2_takeWord rm_X2_takeWord).room s m args below meth c H locs 0 0 Q (F0 m 96 ls [])) h (fun v21 f22 h H locs ls hP hD hS hl => ?_) (fun K23 J23 h => ?_)
                · obtain ⟨v24, ev24⟩ : ∃ y : Int32, y = (v18 + (1 : Int32)) := ⟨_, rfl⟩
                  replace h := im_lt_u h v24 ev24
                  refine lv_iinc (v := v24) (lv' := [(7, .int v24), (0, .ref a_this), (1, .ref a_p0), (2, .int x1), (3, .ref a_p2), (4, .ref a_p3), (5, .int v1), (6, .int v21)]) hx hb dX2_takeWord_96 hl (k := 7) rfl (by rw [ev24]; rfl) (by decide) rfl (fun ls hl => ?_)
                  refine lv_goto (tgt := 24) hx hb dX2_takeWord_99 (by decide) ?_
                  exact ih v21 v24 f22 h _ _ _ hP hD hS (lv_sub hl [1, 2, 3, 4, 5, 6, 7, 0] rfl)
                · refine lv_aload_n hx hb dX2_takeWord_33 rfl (lv_at hl 0 rfl) ?_
                  refine lv_iload hx hb dX2_takeWord_34 (lv_at hl 5 rfl) ?_
                  refine lv_aload_n hx hb dX2_takeWord_36 rfl (lv_at hl 0 rfl) ?_
                  refine va_get (D := (dC, dI)) (ci := 2) (v := .int i_this_symbolBars) (C := RX2) (T := TX2) (N := 10) hx hb hts hn_X2_takeWord_X2 hown hK hP 0 rfl rfl 8 (by decide) (hts _ fl_X2_takeWord_44) (fun _ h9 => h9) rfl dX2_takeWord_37 ?_
                  refine lv_imul hx hb dX2_takeWord_40 ?_
                  refine lv_topi (fun v25 ev25 => ?_)
                  replace h := im_lt_u h v25 ev25
                  refine lv_iload hx hb dX2_takeWord_41 (lv_at hl 7 rfl) ?_
                  refine lv_iadd hx hb dX2_takeWord_43 ?_
                  refine lv_topi (fun v26 ev26 => ?_)
                  replace h := im_lt_u h v26 ev26
                  obtain ⟨v27, y44, h⟩ := im_b1_u h
                  have hPc := hP.sub (ws' := [(a_this, .inr (2, [.int i_this_kind, .ref a_this_widths, .int i_this_checks, .int i_this_symbols, .int i_this_rowLength, .int i_this_highestBar, .int i_this_fourHeights, .int i_this_barBits, .int i_this_symbolBars, .int i_this_checkKey]))]) [0] rfl
                  refine vp_callSi (W.runV (As := [.int v26]) (rest := []) ⟨hx, hb, hml, hown, hts⟩ (c_X2_placeOf l dC dI cI cJ cZ a_this a_this_widths i_this_kind i_this_checks i_this_symbols i_this_rowLength i_this_highestBar i_this_fourHeights i_this_barBits i_this_symbolBars i_this_checkKey v26 y44) (cwV 1 hts gX2_takeWord_X2_placeOf rfl rfl rfl (by decide +kernel) ⟨Nat.le_of_ble_eq_true rfl, Nat.le_of_ble_eq_true rfl⟩) ⟨fun a U g mk q => by obtain ⟨q0, qP, qK⟩ := q; exact ⟨q0, qP, va_K.moved (u := U) (U := U.calling g mk a) (Vm.Alike.refl U.vm) qK⟩, va_recv hK hPc (ci := 2) (q0 := 0) rfl rfl, fun U hU hW => ⟨rfl, by rw [hU]; exact hPc, va_K.moved hW.alike hK⟩⟩ rfl rfl hl.1 rfl (lv_room (Nat.le_of_ble_eq_true rfl)) dX2_takeWord_44 ⟨Nat.zero_le _, Nat.zero_le _⟩) (fun w44 ew44 => ?_)
                  have ew44 := ew44.symm
                  subst ew44
                  refine lv_istore (lv' := [(8, .int v27), (0, .ref a_this), (1, .ref a_p0), (2, .int x1), (3, .ref a_p2), (4, .ref a_p3), (5, .int v1), (6, .int v17), (7, .int v18)]) hx hb dX2_takeWord_47 hl (by decide) rfl (fun ls hl => ?_)
                  refine lv_aload_n hx hb dX2_takeWord_49 rfl (lv_at hl 2 rfl) ?_
                  refine lv_iload hx hb dX2_takeWord_50 (lv_at hl 0 rfl) ?_
                  obtain ⟨q52, h⟩ := im_ld_u h
                  refine va_iald hx hb hK hP 1 0 rfl rfl q52 dX2_takeWord_52 ?_
                  refine lv_topi (fun v28 ev28 => ?_)
                  replace h := h v28 ev28
                  refine lv_iconst (v := (-1 : Int32)) hx hb dX2_takeWord_53 (by decide) ?_
                  refine lv_icmp_ne (tgt := 66) hx hb dX2_takeWord_54 (by decide) (fun c54 => ?_) (fun c54 => ?_)
                  · replace h := im_f c54 h
                    refine lv_iload hx hb dX2_takeWord_66 (lv_at hl 7 rfl) ?_
                    refine lv_aload_n hx hb dX2_takeWord_68 rfl (lv_at hl 2 rfl) ?_
                    refine lv_iload hx hb dX2_takeWord_69 (lv_at hl 0 rfl) ?_
                    obtain ⟨q71, h⟩ := im_ld_u h
                    refine va_iald hx hb hK hP 1 0 rfl rfl q71 dX2_takeWord_71 ?_
                    refine lv_topi (fun v29 ev29 => ?_)
                    replace h := h v29 ev29
                    refine lv_aload_n hx hb dX2_takeWord_72 rfl (lv_at hl 1 rfl) ?_
                    refine lv_iload hx hb dX2_takeWord_73 (lv_at hl 0 rfl) ?_
                    refine lv_iload_n hx hb dX2_takeWord_75 rfl (lv_at hl 3 rfl) ?_
                    obtain ⟨v30, y76, h⟩ := im_b1_u h
                    have hPc := hP.sub (ws' := [(a_this, .inr (2, [.int i_this_kind, .ref a_this_widths, .int i_this_checks, .int i_this_symbols, .int i_this_rowLength, .int i_this_highestBar, .int i_this_fourHeights, .int i_this_barBits, .int i_this_symbolBars, .int i_this_checkKey]))]) [0] rfl
                    refine vp_callSi (W.runV (As := [.int v27, .int x1]) (rest := [.int v29, .int v17]) ⟨hx, hb, hml, hown, hts⟩ (c_X2_turnAt l dC dI cI cJ cZ a_this a_this_widths i_this_kind i_this_checks i_this_symbols i_this_rowLength i_this_highestBar i_this_fourHeights i_this_barBits i_this_symbolBars i_this_checkKey v27 x1 y76) (cwV 2 hts gX2_takeWord_X2_turnAt rfl rfl rfl (by decide +kernel) ⟨Nat.le_of_ble_eq_true rfl, Nat.le_of_ble_eq_true rfl⟩) ⟨fun a U g mk q => by obtain ⟨q0, qP, qK⟩ := q; exact ⟨q0, qP, va_K.moved (u := U) (U := U.calling g mk a) (Vm.Alike.refl U.vm) qK⟩, va_recv hK hPc (ci := 2) (q0 := 0) rfl rfl, fun U hU hW => ⟨rfl, by rw [hU]; exact hPc, va_K.moved hW.alike hK⟩⟩ rfl rfl hl.1 rfl (lv_room (Nat.le_of_ble_eq_true rfl)) dX2_takeWord_76 ⟨Nat.zero_le _, Nat.zero_le _⟩) (fun w76 ew76 => ?_)
                    have ew76 := ew76.symm
                    subst ew76
                    refine lv_ixor hx hb dX2_takeWord_79 ?_
                    refine lv_topi (fun v31 ev31 => ?_)
                    replace h := im_lt_u h v31 ev31
                    refine lv_bipush (v := (6 : Int32)) hx hb dX2_takeWord_80 (by decide) ?_
                    refine lv_iload hx hb dX2_takeWord_82 (lv_at hl 8 rfl) ?_
                    refine lv_iconst (v := (1 : Int32)) hx hb dX2_takeWord_84 (by decide) ?_
                    refine lv_iadd hx hb dX2_takeWord_85 ?_
                    refine lv_topi (fun v32 ev32 => ?_)
                    replace h := im_lt_u h v32 ev32
                    refine lv_aload_n hx hb dX2_takeWord_86 rfl (lv_at hl 1 rfl) ?_
                    refine va_get (D := (dC, dI)) (ci := 2) (v := .int i_this_barBits) (C := RX2) (T := TX2) (N := 10) hx hb hts hn_X2_takeWord_X2 hown hK hP 0 rfl rfl 7 (by decide) (hts _ fl_X2_takeWord_41) (fun _ h9 => h9) rfl dX2_takeWord_87 ?_
                    refine lv_imul hx hb dX2_takeWord_90 ?_
                    refine lv_topi (fun v33 ev33 => ?_)
                    replace h := im_lt_u h v33 ev33
                    refine lv_isub hx hb dX2_takeWord_91 ?_
                    refine lv_topi (fun v34 ev34 => ?_)
                    replace h := im_lt_u h v34 ev34
                    refine lv_ishl hx hb dX2_takeWord_92 ?_
                    refine lv_topi (fun v35 ev35 => ?_)
                    replace h := im_lt_u h v35 ev35
                    refine lv_ior hx hb dX2_takeWord_93 ?_
                    refine lv_topi (fun v36 ev36 => ?_)
                    replace h := im_lt_u h v36 ev36
                    refine lv_istore (lv' := [(6, .int v36), (8, .int v27), (0, .ref a_this), (1, .ref a_p0), (2, .int x1), (3, .ref a_p2), (4, .ref a_p3), (5, .int v1), (7, .int v18)]) hx hb dX2_takeWord_94 hl (by decide) rfl (fun ls hl => ?_)
                    exact J23 v36 f19 h _ _ _ hP hD hS (lv_sub hl [2, 3, 4, 5, 6, 7, 0, 8] rfl)
                  · replace h := im_t c54 h
                    refine lv_aload hx hb dX2_takeWord_57 (lv_at hl 5 rfl) ?_
                    refine lv_iload hx hb dX2_takeWord_59 (lv_at hl 6 rfl) ?_
                    refine lv_iconst (v := (1 : Int32)) hx hb dX2_takeWord_61 (by decide) ?_
                    obtain ⟨q62, h⟩ := im_st_u h
                    refine va_zast hx hb hK hP hD hS 3 2 rfl rfl q62 dX2_takeWord_62 (fun H locs hP hD hS => ?_)
                    obtain ⟨f37, ef37⟩ : ∃ g : Nat → Int32, g = upd f19 v1.toNatClampNeg (1 : Int32) := ⟨_, rfl⟩
                    replace h := h f37 ef37
                    rw [im_nb (by decide), ← ef37] at hP hD
                    have hP : va_P (dC, dI) vwCl [(a_this, .inr (2, [.int i_this_kind, .ref a_this_widths, .int i_this_checks, .int i_this_symbols, .int i_this_rowLength, .int i_this_highestBar, .int i_this_fourHeights, .int i_this_barBits, .int i_this_symbolBars, .int i_this_checkKey])), (a_p0, .inl (cI, n_p0, .inl f_p0)), (a_p2, .inl (cI, n_p2, .inl f2)), (a_p3, .inl (cZ, n_p3, .inl f37))] H := hP
                    have hD : va_D A [(a_this, .inr (2, [.int i_this_kind, .ref a_this_widths, .int i_this_checks, .int i_this_symbols, .int i_this_rowLength, .int i_this_highestBar, .int i_this_fourHeights, .int i_this_barBits, .int i_this_symbolBars, .int i_this_checkKey])), (a_p0, .inl (cI, n_p0, .inl f_p0)), (a_p2, .inl (cI, n_p2, .inl f2)), (a_p3, .inl (cZ, n_p3, .inl f37))] := hD
                    refine lv_goto (tgt := 96) hx hb dX2_takeWord_63 (by decide) ?_
                    exact J23 v17 f37 h _ _ _ hP hD hS (lv_sub hl [1, 2, 3, 4, 5, 6, 7, 8] rfl)
          exact Lp20 5000 (0 : Int32) (0 : Int32) f5 h _ _ _ hP hD hS (lv_sub hl [2, 3, 4, 5, 6, 7, 1, 0] rfl)
  exact Lp4 5000 (0 : Int32) f_p2 f_p3 h _ _ _ hP hD hS (lv_sub hl [1, 2, 3, 4, 5, 0] rfl)
def im_X2_looksTurned_L7 (i_this_rowLength : Int32) (K3 : Int32 → Int32 → Option (Int32)) (i_this_kind : Int32) (i_this_fourHeights : Int32) (n_st_BarCodes_Form_FOUR_HEIGHT_ENDS : Nat) (n_st_BarCodes_Form_TAG_ENDS : Nat) (f_st_BarCodes_Form_FOUR_HEIGHT_ENDS : Nat → Int32) (f_st_BarCodes_Form_TAG_ENDS : Nat → Int32) (n_p0 : Nat) (f_p0 : Nat → Int32) : Nat → Int32 → Int32 → Int32 → Option (Int32)
  | 0, _, _, _ => none
  | n + 1, v4, v5, v6 => if i_this_rowLength ≤ v6 then (K3 v4 v5) else im_j2 (fun (v8 : Int32) (v9 : Int32) => im_lt (v6 + (1 : Int32)) (fun v11 => (im_X2_looksTurned_L7 i_this_rowLength K3 i_this_kind i_this_fourHeights n_st_BarCodes_Form_FOUR_HEIGHT_ENDS n_st_BarCodes_Form_TAG_ENDS f_st_BarCodes_Form_FOUR_HEIGHT_ENDS f_st_BarCodes_Form_TAG_ENDS n_p0 f_p0 n v8 v9 v11))) (fun K10 => im_b1 (im_X2_frameAt v6 i_this_kind i_this_rowLength i_this_fourHeights n_st_BarCodes_Form_FOUR_HEIGHT_ENDS n_st_BarCodes_Form_TAG_ENDS f_st_BarCodes_Form_FOUR_HEIGHT_ENDS f_st_BarCodes_Form_TAG_ENDS) (fun v12 => if v12 = (-1 : Int32) then (K10 v4 v5) else im_j2 (fun (v13 : Int32) (v14 : Int32) => im_j3 (fun (v16 : Int32) (v17 : Int32) (v18 : Int32) => im_lt (v18 + v17) (fun v20 => (K10 v16 v20))) (fun K19 => im_lt (v14 + v13) (fun v21 => im_lt (i_this_rowLength - (1 : Int32)) (fun v22 => im_lt (v22 - v6) (fun v23 => im_ld n_p0 f_p0 v23 (fun v24 => im_b1 (im_X2_fromOtherSide v24 i_this_fourHeights) (fun v25 => if v25 = v12 then (K19 v21 (1 : Int32) v5) else (K19 v21 (0 : Int32) v5)))))))) (fun K15 => im_ld n_p0 f_p0 v6 (fun v26 => if v26 = v12 then (K15 (1 : Int32) v4) else (K15 (0 : Int32) v4)))))
def im_X2_looksTurned (i_this_kind : Int32) (i_this_rowLength : Int32) (i_this_fourHeights : Int32) (n_p0 : Nat) (n_st_BarCodes_Form_FOUR_HEIGHT_ENDS : Nat) (n_st_BarCodes_Form_TAG_ENDS : Nat) (f_p0 : Nat → Int32) (f_st_BarCodes_Form_FOUR_HEIGHT_ENDS : Nat → Int32) (f_st_BarCodes_Form_TAG_ENDS : Nat → Int32) : Option (Int32) := im_j2 (fun (v1 : Int32) (v2 : Int32) => if v2 ≤ v1 then (some (0 : Int32)) else (some (1 : Int32))) (fun K3 => (im_X2_looksTurned_L7 i_this_rowLength K3 i_this_kind i_this_fourHeights n_st_BarCodes_Form_FOUR_HEIGHT_ENDS n_st_BarCodes_Form_TAG_ENDS f_st_BarCodes_Form_FOUR_HEIGHT_ENDS f_st_BarCodes_Form_TAG_ENDS n_p0 f_p0 5000 (0 : Int32) (0 : Int32) (0 : Int32)))
abbrev rm_X2_looksTurned : Room := { frames := 2, cells := 0, slots := 0, locals := 45 }
theorem hn_X2_looksTurned_X2 : ∀ w ∈ wsX20, w ∈ wsX2_looksTurned := by decide +kernel
theorem fl_X2_looksTurned_52 : Cond.fieldLink RX2 52 "BarCodes$Form" "rowLength" "I" ∈ wsX2_looksTurned := by decide +kernel
set_option maxHeartbeats 4000000 in
set_option maxRecDepth 100000 in
theorem c_X2_looksTurned (l : Launch) (dC : Nat → ClassId) (dI : Nat → Nat → Nat) (cI cJ cZ : ClassId) (a_this a_this_widths a_p0 a_st_BarCodes_Form_FOUR_HEIGHT_ENDS a_st_BarCodes_Form_TAG_ENDS : Nat) (i_this_kind i_this_checks i_this_symbols i_this_rowLength i_this_highestBar i_this_fourHeights i_this_barBits i_this_symbolBars i_this_checkKey : Int32) (n_p0 n_st_BarCodes_Form_FOUR_HEIGHT_ENDS n_st_BarCodes_Form_TAG_ENDS : Nat) (f_p0 : Nat → Int32) (f_st_BarCodes_Form_FOUR_HEIGHT_ENDS : Nat → Int32) (f_st_BarCodes_Form_TAG_ENDS : Nat → Int32) {r : Int32} (h : im_X2_looksTurned i_this_kind i_this_rowLength i_this_fourHeights n_p0 n_st_BarCodes_Form_FOUR_HEIGHT_ENDS n_st_BarCodes_Form_TAG_ENDS f_p0 f_st_BarCodes_Form_FOUR_HEIGHT_ENDS f_st_BarCodes_Form_TAG_ENDS = some r) : Met l yX2_looksTurned wsX2_looksTurned rm_X2_looksTurned (va_Pc [.ref a_this, .ref a_p0] (fun U => va_P (dC, dI) vwCl [(a_this, .inr (2, [.int i_this_kind, .ref a_this_widths, .int i_this_checks, .int i_this_symbols, .int i_this_rowLength, .int i_this_highestBar, .int i_this_fourHeights, .int i_this_barBits, .int i_this_symbolBars, .int i_this_checkKey])), (a_p0, .inl (cI, n_p0, .inl f_p0))] U.heap ∧ va_K (dC, dI) vwCl [(cI, .int), (cJ, .long), (cZ, .boolean)] U ∧ va_T .int a_st_BarCodes_Form_FOUR_HEIGHT_ENDS n_st_BarCodes_Form_FOUR_HEIGHT_ENDS (fun j => .int (f_st_BarCodes_Form_FOUR_HEIGHT_ENDS j)) (fun _ => False) U U.heap ∧ va_T .int a_st_BarCodes_Form_TAG_ENDS n_st_BarCodes_Form_TAG_ENDS (fun j => .int (f_st_BarCodes_Form_TAG_ENDS j)) (fun _ => False) U U.heap ∧ va_Z "BarCodes$Form" "FOUR_HEIGHT_ENDS" "[I" (.ref a_st_BarCodes_Form_FOUR_HEIGHT_ENDS) (fun _ => False) U U.heap ∧ va_Z "BarCodes$Form" "TAG_ENDS" "[I" (.ref a_st_BarCodes_Form_TAG_ENDS) (fun _ => False) U U.heap)) (vp_Si (fun r9 => r9 = r)) 0 0 (fun _ => False) := by
  refine Met.ofW (cc := cX2_looksTurned) (maxL := 6) (ret := (some .boolean)) (by decide) rfl ?_
  intro p e s m args below meth c s₁ B hml hv
  obtain ⟨eargs, hP, hK, hT_st_BarCodes_Form_FOUR_HEIGHT_ENDS, hT_st_BarCodes_Form_TAG_ENDS, hZ_st_BarCodes_Form_FOUR_HEIGHT_ENDS, hZ_st_BarCodes_Form_TAG_ENDS⟩ := hv
  have hx := B.exec
  have hb := B.bytes
  have hr := B.returns
  have hts := atoms_spec (ws := wsX2_looksTurned) B.pre
  have hown : s.vm.findClass RX2 = some m.cls := findClass_of_methodNamed B.named
  have hlocks := B.notSynchronized
  refine im_Q (fun Q eQ => ?_)
  have hl := lv_entry [.ref a_this, .ref a_p0] (n := 6) (Nat.le_of_ble_eq_true rfl)
  rw [show entryFrame m args 6 = entryFrame m ([.ref a_this, .ref a_p0] : List Value).toArray 6 by rw [eargs], lg_entry_eq]
  generalize (lg_sl ([.ref a_this, .ref a_p0]) ++ List.replicate (6 - (lg_sl ([.ref a_this, .ref a_p0])).length) Slot.unset).toArray = ls at hl ⊢
  have hl : lv_has ls 6 [(0, .ref a_this), (1, .ref a_p0)] := hl
  rw [im_X2_looksTurned] at h
  refine lv_iconst (v := (0 : Int32)) hx hb dX2_looksTurned_0 (by decide) ?_
  refine lv_istore_n (lv' := [(2, .int (0 : Int32)), (0, .ref a_this), (1, .ref a_p0)]) hx hb dX2_looksTurned_1 rfl hl (by decide) rfl (fun ls hl => ?_)
  refine lv_iconst (v := (0 : Int32)) hx hb dX2_looksTurned_2 (by decide) ?_
  refine lv_istore_n (lv' := [(3, .int (0 : Int32)), (2, .int (0 : Int32)), (0, .ref a_this), (1, .ref a_p0)]) hx hb dX2_looksTurned_3 rfl hl (by decide) rfl (fun ls hl => ?_)
  refine lv_iconst (v := (0 : Int32)) hx hb dX2_looksTurned_4 (by decide) ?_
  refine lv_istore (lv' := [(4, .int (0 : Int32)), (3, .int (0 : Int32)), (2, .int (0 : Int32)), (0, .ref a_this), (1, .ref a_p0)]) hx hb dX2_looksTurned_5 hl (by decide) rfl (fun ls hl => ?_)
  refine im_j2_u (P := fun v1 v2 => ∀ (ls : Array Slot), lv_has ls 6 [(2, .int v1), (3, .int v2)] → W p l e (headSpec wsX2_looksTurned rm_X2_looksTurned).room s m args below meth c s.heap [] 0 0 Q (F0 m 81 ls [])) h (fun v1 v2 h ls hl => ?_) (fun K3 J3 h => ?_)
  · refine lv_iload_n hx hb dX2_looksTurned_81 rfl (lv_at hl 1 rfl) ?_
    refine lv_iload_n hx hb dX2_looksTurned_82 rfl (lv_at hl 0 rfl) ?_
    refine lv_icmp_le (tgt := 90) hx hb dX2_looksTurned_83 (by decide) (fun c83 => ?_) (fun c83 => ?_)
    · replace h := im_t c83 h
      refine lv_iconst (v := (0 : Int32)) hx hb dX2_looksTurned_90 (by decide) ?_
      rw [eQ]
      exact W.zret (ty := .boolean) (v := (0 : Int32)) hx hb hr rfl (fun t ht hW => ⟨_, rfl, Option.some.inj h, ht⟩) (fun _ h9 => by cases h9) dX2_looksTurned_91
    · replace h := im_f c83 h
      refine lv_iconst (v := (1 : Int32)) hx hb dX2_looksTurned_86 (by decide) ?_
      refine lv_goto (tgt := 91) hx hb dX2_looksTurned_87 (by decide) ?_
      rw [eQ]
      exact W.zret (ty := .boolean) (v := (1 : Int32)) hx hb hr rfl (fun t ht hW => ⟨_, rfl, Option.some.inj h, ht⟩) (fun _ h9 => by cases h9) dX2_looksTurned_91
  · have Lp7 : ∀ (n : Nat) (v4 : Int32) (v5 : Int32) (v6 : Int32), im_X2_looksTurned_L7 i_this_rowLength K3 i_this_kind i_this_fourHeights n_st_BarCodes_Form_FOUR_HEIGHT_ENDS n_st_BarCodes_Form_TAG_ENDS f_st_BarCodes_Form_FOUR_HEIGHT_ENDS f_st_BarCodes_Form_TAG_ENDS n_p0 f_p0 n v4 v5 v6 = some r → ∀ (ls : Array Slot), lv_has ls 6 [(0, .ref a_this), (1, .ref a_p0), (2, .int v4), (3, .int v5), (4, .int v6)] → W p l e (headSpec wsX2_looksTurned rm_X2_looksTurned).room s m args below meth c s.heap [] 0 0 Q (F0 m 7 ls []) := by
      intro n
      induction n with
      | zero => intro v4 v5 v6 h; rw [im_X2_looksTurned_L7] at h; cases h
      | succ n ih =>
        intro v4 v5 v6 h ls hl
        rw [im_X2_looksTurned_L7] at h
        refine lv_iload hx hb dX2_looksTurned_7 (lv_at hl 4 rfl) ?_
        refine lv_aload_n hx hb dX2_looksTurned_9 rfl (lv_at hl 0 rfl) ?_
        refine va_get (D := (dC, dI)) (ci := 2) (v := .int i_this_rowLength) (C := RX2) (T := TX2) (N := 10) hx hb hts hn_X2_looksTurned_X2 hown hK hP 0 rfl rfl 4 (by decide) (hts _ fl_X2_looksTurned_52) (fun _ h9 => h9) rfl dX2_looksTurned_10 ?_
        refine lv_icmp_ge (tgt := 81) hx hb dX2_looksTurned_13 (by decide) (fun c13 => ?_) (fun c13 => ?_)
        · replace h := im_t c13 h
          exact J3 v4 v5 h _ (lv_sub hl [2, 3] rfl)
        · replace h := im_f c13 h
          refine im_j2_u (P := fun v8 v9 => ∀ (ls : Array Slot), lv_has ls 6 [(0, .ref a_this), (1, .ref a_p0), (2, .int v8), (3, .int v9), (4, .int v6)] → W p l e (headSpec wsX2_looksTurned rm_X2_looksTurned).room s m args below meth c s.heap [] 0 0 Q (F0 m 75 ls [])) h (fun v8 v9 h ls hl => ?_) (fun K10 J10 h => ?_)
          · obtain ⟨v11, ev11⟩ : ∃ y : Int32, y = (v6 + (1 : Int32)) := ⟨_, rfl⟩
            replace h := im_lt_u h v11 ev11
            refine lv_iinc (v := v11) (lv' := [(4, .int v11), (0, .ref a_this), (1, .ref a_p0), (2, .int v8), (3, .int v9)]) hx hb dX2_looksTurned_75 hl (k := 4) rfl (by rw [ev11]; rfl) (by decide) rfl (fun ls hl => ?_)
            refine lv_goto (tgt := 7) hx hb dX2_looksTurned_78 (by decide) ?_
            exact ih v8 v9 v11 h _ (lv_sub hl [1, 2, 3, 4, 0] rfl)
          · refine lv_aload_n hx hb dX2_looksTurned_16 rfl (lv_at hl 0 rfl) ?_
            refine lv_iload hx hb dX2_looksTurned_17 (lv_at hl 4 rfl) ?_
            obtain ⟨v12, y19, h⟩ := im_b1_u h
            have hPc := hP.sub (ws' := [(a_this, .inr (2, [.int i_this_kind, .ref a_this_widths, .int i_this_checks, .int i_this_symbols, .int i_this_rowLength, .int i_this_highestBar, .int i_this_fourHeights, .int i_this_barBits, .int i_this_symbolBars, .int i_this_checkKey]))]) [0] rfl
            refine vp_callSi (W.runV (As := [.int v6]) (rest := []) ⟨hx, hb, hml, hown, hts⟩ (c_X2_frameAt l dC dI cI cJ cZ a_this a_this_widths a_st_BarCodes_Form_FOUR_HEIGHT_ENDS a_st_BarCodes_Form_TAG_ENDS i_this_kind i_this_checks i_this_symbols i_this_rowLength i_this_highestBar i_this_fourHeights i_this_barBits i_this_symbolBars i_this_checkKey n_st_BarCodes_Form_FOUR_HEIGHT_ENDS n_st_BarCodes_Form_TAG_ENDS f_st_BarCodes_Form_FOUR_HEIGHT_ENDS f_st_BarCodes_Form_TAG_ENDS v6 y19) (cwV 1 hts gX2_looksTurned_X2_frameAt rfl rfl rfl (by decide +kernel) ⟨Nat.le_of_ble_eq_true rfl, Nat.le_of_ble_eq_true rfl⟩) ⟨fun a U g mk q => by obtain ⟨q0, qP, qK, t0, t1, t2, t3⟩ := q; exact ⟨q0, qP, va_K.moved (u := U) (U := U.calling g mk a) (Vm.Alike.refl U.vm) qK, va_T.moved (u := U) (U := U.calling g mk a) (Vm.Alike.refl U.vm) t0, va_T.moved (u := U) (U := U.calling g mk a) (Vm.Alike.refl U.vm) t1, va_Z.moved (u := U) (U := U.calling g mk a) (Vm.Alike.refl U.vm) t2, va_Z.moved (u := U) (U := U.calling g mk a) (Vm.Alike.refl U.vm) t3⟩, va_recv hK hPc (ci := 2) (q0 := 0) rfl rfl, fun U hU hW => ⟨rfl, by rw [hU]; exact hPc, va_K.moved hW.alike hK, by rw [hU]; exact va_T.moved hW.alike hT_st_BarCodes_Form_FOUR_HEIGHT_ENDS, by rw [hU]; exact va_T.moved hW.alike hT_st_BarCodes_Form_TAG_ENDS, by rw [hU]; exact va_Z.moved hW.alike hZ_st_BarCodes_Form_FOUR_HEIGHT_ENDS, by rw [hU]; exact va_Z.moved hW.alike hZ_st_BarCodes_Form_TAG_ENDS⟩⟩ rfl rfl hl.1 rfl (lv_room (Nat.le_of_ble_eq_true rfl)) dX2_looksTurned_19 ⟨Nat.zero_le _, Nat.zero_le _⟩) (fun w19 ew19 => ?_)
            have ew19 := ew19.symm
            subst ew19
            refine lv_istore (lv' := [(5, .int v12), (0, .ref a_this), (1, .ref a_p0), (2, .int v4), (3, .int v5), (4, .int v6)]) hx hb dX2_looksTurned_22 hl (by decide) rfl (fun ls hl => ?_)
            refine lv_iload hx hb dX2_looksTurned_24 (lv_at hl 0 rfl) ?_
            refine lv_iconst (v := (-1 : Int32)) hx hb dX2_looksTurned_26 (by decide) ?_
            refine lv_icmp_eq (tgt := 75) hx hb dX2_looksTurned_27 (by decide) (fun c27 => ?_) (fun c27 => ?_)
            · replace h := im_t c27 h
              exact J10 v4 v5 h _ (lv_sub hl [1, 2, 3, 4, 5] rfl)
            · replace h := im_f c27 h
              refine im_j2_u (P := fun v13 v14 => ∀ (ls : Array Slot), lv_has ls 6 [(0, .ref a_this), (1, .ref a_p0), (3, .int v5), (4, .int v6), (5, .int v12)] → W p l e (headSpec wsX2_looksTurned rm_X2_looksTurned).room s m args below meth c s.heap [] 0 0 Q (F0 m 45 ls [.int v13, .int v14])) h (fun v13 v14 h ls hl => ?_) (fun K15 J15 h => ?_)
              · refine im_j3_u (P := fun v16 v17 v18 => ∀ (ls : Array Slot), lv_has ls 6 [(0, .ref a_this), (1, .ref a_p0), (2, .int v16), (4, .int v6)] → W p l e (headSpec wsX2_looksTurned rm_X2_looksTurned).room s m args below meth c s.heap [] 0 0 Q (F0 m 73 ls [.int v17, .int v18])) h (fun v16 v17 v18 h ls hl => ?_) (fun K19 J19 h => ?_)
                · refine lv_iadd hx hb dX2_looksTurned_73 ?_
                  refine lv_topi (fun v20 ev20 => ?_)
                  replace h := im_lt_u h v20 ev20
                  refine lv_istore_n (lv' := [(3, .int v20), (0, .ref a_this), (1, .ref a_p0), (2, .int v16), (4, .int v6)]) hx hb dX2_looksTurned_74 rfl hl (by decide) rfl (fun ls hl => ?_)
                  exact J10 v16 v20 h _ (lv_sub hl [1, 2, 3, 0, 4] rfl)
                · refine lv_iadd hx hb dX2_looksTurned_45 ?_
                  refine lv_topi (fun v21 ev21 => ?_)
                  replace h := im_lt_u h v21 ev21
                  refine lv_istore_n (lv' := [(2, .int v21), (0, .ref a_this), (1, .ref a_p0), (3, .int v5), (4, .int v6), (5, .int v12)]) hx hb dX2_looksTurned_46 rfl hl (by decide) rfl (fun ls hl => ?_)
                  refine lv_iload_n hx hb dX2_looksTurned_47 rfl (lv_at hl 3 rfl) ?_
                  refine lv_aload_n hx hb dX2_looksTurned_48 rfl (lv_at hl 1 rfl) ?_
                  refine lv_aload_n hx hb dX2_looksTurned_49 rfl (lv_at hl 2 rfl) ?_
                  refine lv_aload_n hx hb dX2_looksTurned_50 rfl (lv_at hl 1 rfl) ?_
                  refine va_get (D := (dC, dI)) (ci := 2) (v := .int i_this_rowLength) (C := RX2) (T := TX2) (N := 10) hx hb hts hn_X2_looksTurned_X2 hown hK hP 0 rfl rfl 4 (by decide) (hts _ fl_X2_looksTurned_52) (fun _ h9 => h9) rfl dX2_looksTurned_51 ?_
                  refine lv_iconst (v := (1 : Int32)) hx hb dX2_looksTurned_54 (by decide) ?_
                  refine lv_isub hx hb dX2_looksTurned_55 ?_
                  refine lv_topi (fun v22 ev22 => ?_)
                  replace h := im_lt_u h v22 ev22
                  refine lv_iload hx hb dX2_looksTurned_56 (lv_at hl 4 rfl) ?_
                  refine lv_isub hx hb dX2_looksTurned_58 ?_
                  refine lv_topi (fun v23 ev23 => ?_)
                  replace h := im_lt_u h v23 ev23
                  obtain ⟨q59, h⟩ := im_ld_u h
                  refine va_iald hx hb hK hP 1 0 rfl rfl q59 dX2_looksTurned_59 ?_
                  refine lv_topi (fun v24 ev24 => ?_)
                  replace h := h v24 ev24
                  obtain ⟨v25, y60, h⟩ := im_b1_u h
                  have hPc := hP.sub (ws' := [(a_this, .inr (2, [.int i_this_kind, .ref a_this_widths, .int i_this_checks, .int i_this_symbols, .int i_this_rowLength, .int i_this_highestBar, .int i_this_fourHeights, .int i_this_barBits, .int i_this_symbolBars, .int i_this_checkKey]))]) [0] rfl
                  refine vp_callSi (W.runV (As := [.int v24]) (rest := [.int v5]) ⟨hx, hb, hml, hown, hts⟩ (c_X2_fromOtherSide l dC dI cI cJ cZ a_this a_this_widths i_this_kind i_this_checks i_this_symbols i_this_rowLength i_this_highestBar i_this_fourHeights i_this_barBits i_this_symbolBars i_this_checkKey v24 y60) (cwV 1 hts gX2_looksTurned_X2_fromOtherSide rfl rfl rfl (by decide +kernel) ⟨Nat.le_of_ble_eq_true rfl, Nat.le_of_ble_eq_true rfl⟩) ⟨fun a U g mk q => by obtain ⟨q0, qP, qK⟩ := q; exact ⟨q0, qP, va_K.moved (u := U) (U := U.calling g mk a) (Vm.Alike.refl U.vm) qK⟩, va_recv hK hPc (ci := 2) (q0 := 0) rfl rfl, fun U hU hW => ⟨rfl, by rw [hU]; exact hPc, va_K.moved hW.alike hK⟩⟩ rfl rfl hl.1 rfl (lv_room (Nat.le_of_ble_eq_true rfl)) dX2_looksTurned_60 ⟨Nat.zero_le _, Nat.zero_le _⟩) (fun w60 ew60 => ?_)
                  have ew60 := ew60.symm
                  subst ew60
                  refine lv_iload hx hb dX2_looksTurned_63 (lv_at hl 5 rfl) ?_
                  refine lv_icmp_ne (tgt := 72) hx hb dX2_looksTurned_65 (by decide) (fun c65 => ?_) (fun c65 => ?_)
                  · replace h := im_f c65 h
                    refine lv_iconst (v := (0 : Int32)) hx hb dX2_looksTurned_72 (by decide) ?_
                    exact J19 v21 (0 : Int32) v5 h _ (lv_sub hl [1, 2, 0, 4] rfl)
                  · replace h := im_t c65 h
                    refine lv_iconst (v := (1 : Int32)) hx hb dX2_looksTurned_68 (by decide) ?_
                    refine lv_goto (tgt := 73) hx hb dX2_looksTurned_69 (by decide) ?_
                    exact J19 v21 (1 : Int32) v5 h _ (lv_sub hl [1, 2, 0, 4] rfl)
              · refine lv_iload_n hx hb dX2_looksTurned_30 rfl (lv_at hl 3 rfl) ?_
                refine lv_aload_n hx hb dX2_looksTurned_31 rfl (lv_at hl 2 rfl) ?_
                refine lv_iload hx hb dX2_looksTurned_32 (lv_at hl 5 rfl) ?_
                obtain ⟨q34, h⟩ := im_ld_u h
                refine va_iald hx hb hK hP 1 0 rfl rfl q34 dX2_looksTurned_34 ?_
                refine lv_topi (fun v26 ev26 => ?_)
                replace h := h v26 ev26
                refine lv_iload hx hb dX2_looksTurned_35 (lv_at hl 0 rfl) ?_
                refine lv_icmp_ne (tgt := 44) hx hb dX2_looksTurned_37 (by decide) (fun c37 => ?_) (fun c37 => ?_)
                · replace h := im_f c37 h
                  refine lv_iconst (v := (0 : Int32)) hx hb dX2_looksTurned_44 (by decide) ?_
                  exact J15 (0 : Int32) v4 h _ (lv_sub hl [1, 2, 4, 5, 0] rfl)
                · replace h := im_t c37 h
                  refine lv_iconst (v := (1 : Int32)) hx hb dX2_looksTurned_40 (by decide) ?_
                  refine lv_goto (tgt := 45) hx hb dX2_looksTurned_41 (by decide) ?_
                  exact J15 (1 : Int32) v4 h _ (lv_sub hl [1, 2, 4, 5, 0] rfl)
    exact Lp7 5000 (0 : Int32) (0 : Int32) (0 : Int32) h _ (lv_sub hl [3, 4, 2, 1, 0] rfl)
def im_X2_turn_L9 (n_p0 : Nat) (i_this_fourHeights : Int32) : Nat → Int32 → Int32 → (Nat → Int32) → Option ((Nat → Int32))
  | 0, _, _, _ => none
  | n + 1, v2, v3, f4 => if v3 < v2 then (some f4) else im_ld n_p0 f4 v2 (fun v6 => im_ld n_p0 f4 v3 (fun v7 => im_b1 (im_X2_fromOtherSide v7 i_this_fourHeights) (fun v8 => im_st n_p0 f4 v2 v8 (fun f9 => im_b1 (im_X2_fromOtherSide v6 i_this_fourHeights) (fun v10 => im_st n_p0 f9 v3 v10 (fun f11 => im_lt (v2 + (1 : Int32)) (fun v12 => im_lt (v3 + (-1 : Int32)) (fun v13 => (im_X2_turn_L9 n_p0 i_this_fourHeights n v12 v13 f11)))))))))
def im_X2_turn (i_this_rowLength : Int32) (i_this_fourHeights : Int32) (n_p0 : Nat) (f_p0 : Nat → Int32) : Option ((Nat → Int32)) := im_lt (i_this_rowLength - (1 : Int32)) (fun v1 => (im_X2_turn_L9 n_p0 i_this_fourHeights 5000 (0 : Int32) v1 f_p0))
abbrev rm_X2_turn : Room := { frames := 1, cells := 0, slots := 0, locals := 21 }
theorem hn_X2_turn_X2 : ∀ w ∈ wsX20, w ∈ wsX2_turn := by decide +kernel
theorem fl_X2_turn_52 : Cond.fieldLink RX2 52 "BarCodes$Form" "rowLength" "I" ∈ wsX2_turn := by decide +kernel
set_option maxHeartbeats 4000000 in
set_option maxRecDepth 100000 in
theorem c_X2_turn (l : Launch) (dC : Nat → ClassId) (dI : Nat → Nat → Nat) (cI cJ cZ : ClassId) (sz : Nat) (a_this a_this_widths a_p0 : Nat) (i_this_kind i_this_checks i_this_symbols i_this_rowLength i_this_highestBar i_this_fourHeights i_this_barBits i_this_symbolBars i_this_checkKey : Int32) (n_p0 : Nat) (f_p0 : Nat → Int32) {r : (Nat → Int32)} (h : im_X2_turn i_this_rowLength i_this_fourHeights n_p0 f_p0 = some r) : Met l yX2_turn wsX2_turn rm_X2_turn (va_Pc [.ref a_this, .ref a_p0] (fun U => U.heap.size = sz ∧ va_P (dC, dI) vwCl [(a_this, .inr (2, [.int i_this_kind, .ref a_this_widths, .int i_this_checks, .int i_this_symbols, .int i_this_rowLength, .int i_this_highestBar, .int i_this_fourHeights, .int i_this_barBits, .int i_this_symbolBars, .int i_this_checkKey])), (a_p0, .inl (cI, n_p0, .inl f_p0))] U.heap ∧ va_K (dC, dI) vwCl [(cI, .int), (cJ, .long), (cZ, .boolean)] U ∧ va_D (fun _ => True) [(a_this, .inr (2, [.int i_this_kind, .ref a_this_widths, .int i_this_checks, .int i_this_symbols, .int i_this_rowLength, .int i_this_highestBar, .int i_this_fourHeights, .int i_this_barBits, .int i_this_symbolBars, .int i_this_checkKey])), (a_p0, .inl (cI, n_p0, .inl f_p0))])) (va_Qv (S := (Nat → Int32)) (fun u9 => u9 = r) (fun u9 t9 => va_P (dC, dI) vwCl [(a_this, .inr (2, [.int i_this_kind, .ref a_this_widths, .int i_this_checks, .int i_this_symbols, .int i_this_rowLength, .int i_this_highestBar, .int i_this_fourHeights, .int i_this_barBits, .int i_this_symbolBars, .int i_this_checkKey])), (a_p0, .inl (cI, n_p0, .inl (u9)))] t9.heap ∧ va_K (dC, dI) vwCl [(cI, .int), (cJ, .long), (cZ, .boolean)] t9 ∧ va_D (va_A [(a_this, .inr (2, [.int i_this_kind, .ref a_this_widths, .int i_this_checks, .int i_this_symbols, .int i_this_rowLength, .int i_this_highestBar, .int i_this_fourHeights, .int i_this_barBits, .int i_this_symbolBars, .int i_this_checkKey])), (a_p0, .inl (cI, n_p0, .inl f_p0))] sz) [(a_this, .inr (2, [.int i_this_kind, .ref a_this_widths, .int i_this_checks, .int i_this_symbols, .int i_this_rowLength, .int i_this_highestBar, .int i_this_fourHeights, .int i_this_barBits, .int i_this_symbolBars, .int i_this_checkKey])), (a_p0, .inl (cI, n_p0, .inl (u9)))]) (va_A [(a_this, .inr (2, [.int i_this_kind, .ref a_this_widths, .int i_this_checks, .int i_this_symbols, .int i_this_rowLength, .int i_this_highestBar, .int i_this_fourHeights, .int i_this_barBits, .int i_this_symbolBars, .int i_this_checkKey])), (a_p0, .inl (cI, n_p0, .inl f_p0))] sz)) 0 0 (va_A [(a_this, .inr (2, [.int i_this_kind, .ref a_this_widths, .int i_this_checks, .int i_this_symbols, .int i_this_rowLength, .int i_this_highestBar, .int i_this_fourHeights, .int i_this_barBits, .int i_this_symbolBars, .int i_this_checkKey])), (a_p0, .inl (cI, n_p0, .inl f_p0))] sz) := by
  refine Met.ofW (cc := cX2_turn) (maxL := 5) (ret := none) (by decide) rfl ?_
  intro p e s m args below meth c s₁ B hml hv
  obtain ⟨eargs, hsz, hP, hK, hD0⟩ := hv
  have hx := B.exec
  have hb := B.bytes
  have hr := B.returns
  have hts := atoms_spec (ws := wsX2_turn) B.pre
  have hown : s.vm.findClass RX2 = some m.cls := findClass_of_methodNamed B.named
  have hlocks := B.notSynchronized
  refine im_Q (fun Q eQ => ?_)
  subst hsz
  have hD := hD0.self (sz := s.heap.size)
  generalize hAe : va_A [(a_this, .inr (2, [.int i_this_kind, .ref a_this_widths, .int i_this_checks, .int i_this_symbols, .int i_this_rowLength, .int i_this_highestBar, .int i_this_fourHeights, .int i_this_barBits, .int i_this_symbolBars, .int i_this_checkKey])), (a_p0, .inl (cI, n_p0, .inl f_p0))] s.heap.size = A at hD eQ
  have hA : ∀ q : Nat, s.heap.size ≤ q → A q := fun q h => by rw [← hAe]; exact Or.inr h
  have hS : va_S A s.heap s.heap [] := va_S.rf
  have hl := lv_entry [.ref a_this, .ref a_p0] (n := 5) (Nat.le_of_ble_eq_true rfl)
  rw [show entryFrame m args 5 = entryFrame m ([.ref a_this, .ref a_p0] : List Value).toArray 5 by rw [eargs], lg_entry_eq]
  generalize (lg_sl ([.ref a_this, .ref a_p0]) ++ List.replicate (5 - (lg_sl ([.ref a_this, .ref a_p0])).length) Slot.unset).toArray = ls at hl ⊢
  have hl : lv_has ls 5 [(0, .ref a_this), (1, .ref a_p0)] := hl
  rw [im_X2_turn] at h
  refine lv_iconst (v := (0 : Int32)) hx hb dX2_turn_0 (by decide) ?_
  refine lv_istore_n (lv' := [(2, .int (0 : Int32)), (0, .ref a_this), (1, .ref a_p0)]) hx hb dX2_turn_1 rfl hl (by decide) rfl (fun ls hl => ?_)
  refine lv_aload_n hx hb dX2_turn_2 rfl (lv_at hl 1 rfl) ?_
  refine va_get (D := (dC, dI)) (ci := 2) (v := .int i_this_rowLength) (C := RX2) (T := TX2) (N := 10) hx hb hts hn_X2_turn_X2 hown hK hP 0 rfl rfl 4 (by decide) (hts _ fl_X2_turn_52) (fun _ h9 => h9) rfl dX2_turn_3 ?_
  refine lv_iconst (v := (1 : Int32)) hx hb dX2_turn_6 (by decide) ?_
  refine lv_isub hx hb dX2_turn_7 ?_
  refine lv_topi (fun v1 ev1 => ?_)
  replace h := im_lt_u h v1 ev1
  refine lv_istore_n (lv' := [(3, .int v1), (2, .int (0 : Int32)), (0, .ref a_this), (1, .ref a_p0)]) hx hb dX2_turn_8 rfl hl (by decide) rfl (fun ls hl => ?_)
  have Lp5 : ∀ (n : Nat) (v2 : Int32) (v3 : Int32) (f4 : Nat → Int32), im_X2_turn_L9 n_p0 i_this_fourHeights n v2 v3 f4 = some r → ∀ (H : Heap) (locs : List Loc) (ls : Array Slot), va_P (dC, dI) vwCl [(a_this, .inr (2, [.int i_this_kind, .ref a_this_widths, .int i_this_checks, .int i_this_symbols, .int i_this_rowLength, .int i_this_highestBar, .int i_this_fourHeights, .int i_this_barBits, .int i_this_symbolBars, .int i_this_checkKey])), (a_p0, .inl (cI, n_p0, .inl f4))] H → va_D A [(a_this, .inr (2, [.int i_this_kind, .ref a_this_widths, .int i_this_checks, .int i_this_symbols, .int i_this_rowLength, .int i_this_highestBar, .int i_this_fourHeights, .int i_this_barBits, .int i_this_symbolBars, .int i_this_checkKey])), (a_p0, .inl (cI, n_p0, .inl f4))] → va_S A s.heap H locs → lv_has ls 5 [(0, .ref a_this), (1, .ref a_p0), (2, .int v2), (3, .int v3)] → W p l e (headSpec wsX2_turn rm_X2_turn).room s m args below meth c H locs 0 0 Q (F0 m 9 ls []) := by
    intro n
    induction n with
    | zero => intro v2 v3 f4 h; rw [im_X2_turn_L9] at h; cases h
    | succ n ih =>
      intro v2 v3 f4 h H locs ls hP hD hS hl
      rw [im_X2_turn_L9] at h
      refine lv_iload_n hx hb dX2_turn_9 rfl (lv_at hl 2 rfl) ?_
      refine lv_iload_n hx hb dX2_turn_10 rfl (lv_at hl 3 rfl) ?_
      refine lv_icmp_gt (tgt := 47) hx hb dX2_turn_11 (by decide) (fun c11 => ?_) (fun c11 => ?_)
      · replace h := im_t c11 h
        rw [eQ]
        exact W.vret hx hb hr (fun t ht hW => ⟨⟨f4, rfl, Option.some.inj h, by rw [ht]; exact hP, va_K.moved hW.alike hK, hD⟩, hS.F ht⟩) hS.2.2 dX2_turn_47
      · replace h := im_f c11 h
        refine lv_aload_n hx hb dX2_turn_14 rfl (lv_at hl 1 rfl) ?_
        refine lv_iload_n hx hb dX2_turn_15 rfl (lv_at hl 2 rfl) ?_
        obtain ⟨q16, h⟩ := im_ld_u h
        refine va_iald hx hb hK hP 1 0 rfl rfl q16 dX2_turn_16 ?_
        refine lv_topi (fun v6 ev6 => ?_)
        replace h := h v6 ev6
        refine lv_istore (lv' := [(4, .int v6), (0, .ref a_this), (1, .ref a_p0), (2, .int v2), (3, .int v3)]) hx hb dX2_turn_17 hl (by decide) rfl (fun ls hl => ?_)
        refine lv_aload_n hx hb dX2_turn_19 rfl (lv_at hl 2 rfl) ?_
        refine lv_iload_n hx hb dX2_turn_20 rfl (lv_at hl 3 rfl) ?_
        refine lv_aload_n hx hb dX2_turn_21 rfl (lv_at hl 1 rfl) ?_
        refine lv_aload_n hx hb dX2_turn_22 rfl (lv_at hl 2 rfl) ?_
        refine lv_iload_n hx hb dX2_turn_23 rfl (lv_at hl 4 rfl) ?_
        obtain ⟨q24, h⟩ := im_ld_u h
        refine va_iald hx hb hK hP 1 0 rfl rfl q24 dX2_turn_24 ?_
        refine lv_topi (fun v7 ev7 => ?_)
        replace h := h v7 ev7
        obtain ⟨v8, y25, h⟩ := im_b1_u h
        have hPc := hP.sub (ws' := [(a_this, .inr (2, [.int i_this_kind, .ref a_this_widths, .int i_this_checks, .int i_this_symbols, .int i_this_rowLength, .int i_this_highestBar, .int i_this_fourHeights, .int i_this_barBits, .int i_this_symbolBars, .int i_this_checkKey]))]) [0] rfl
        refine vp_callSi (W.runV (As := [.int v7]) (rest := [.int v2, .ref a_p0]) ⟨hx, hb, hml, hown, hts⟩ (c_X2_fromOtherSide l dC dI cI cJ cZ a_this a_this_widths i_this_kind i_this_checks i_this_symbols i_this_rowLength i_this_highestBar i_this_fourHeights i_this_barBits i_this_symbolBars i_this_checkKey v7 y25) (cwV 1 hts gX2_turn_X2_fromOtherSide rfl rfl rfl (by decide +kernel) ⟨Nat.le_of_ble_eq_true rfl, Nat.le_of_ble_eq_true rfl⟩) ⟨fun a U g mk q => by obtain ⟨q0, qP, qK⟩ := q; exact ⟨q0, qP, va_K.moved (u := U) (U := U.calling g mk a) (Vm.Alike.refl U.vm) qK⟩, va_recv hK hPc (ci := 2) (q0 := 0) rfl rfl, fun U hU hW => ⟨rfl, by rw [hU]; exact hPc, va_K.moved hW.alike hK⟩⟩ rfl rfl hl.1 rfl (lv_room (Nat.le_of_ble_eq_true rfl)) dX2_turn_25 ⟨Nat.zero_le _, Nat.zero_le _⟩) (fun w25 ew25 => ?_)
        have ew25 := ew25.symm
        subst ew25
        obtain ⟨q28, h⟩ := im_st_u h
        refine va_iast hx hb hK hP hD hS 1 0 rfl rfl q28 dX2_turn_28 (fun H locs hP hD hS => ?_)
        obtain ⟨f9, ef9⟩ : ∃ g : Nat → Int32, g = upd f4 v2.toNatClampNeg v8 := ⟨_, rfl⟩
        replace h := h f9 ef9
        rw [← ef9] at hP hD
        have hP : va_P (dC, dI) vwCl [(a_this, .inr (2, [.int i_this_kind, .ref a_this_widths, .int i_this_checks, .int i_this_symbols, .int i_this_rowLength, .int i_this_highestBar, .int i_this_fourHeights, .int i_this_barBits, .int i_this_symbolBars, .int i_this_checkKey])), (a_p0, .inl (cI, n_p0, .inl f9))] H := hP
        have hD : va_D A [(a_this, .inr (2, [.int i_this_kind, .ref a_this_widths, .int i_this_checks, .int i_this_symbols, .int i_this_rowLength, .int i_this_highestBar, .int i_this_fourHeights, .int i_this_barBits, .int i_this_symbolBars, .int i_this_checkKey])), (a_p0, .inl (cI, n_p0, .inl f9))] := hD
        refine lv_aload_n hx hb dX2_turn_29 rfl (lv_at hl 2 rfl) ?_
        refine lv_iload_n hx hb dX2_turn_30 rfl (lv_at hl 4 rfl) ?_
        refine lv_aload_n hx hb dX2_turn_31 rfl (lv_at hl 1 rfl) ?_
        refine lv_iload hx hb dX2_turn_32 (lv_at hl 0 rfl) ?_
        obtain ⟨v10, y34, h⟩ := im_b1_u h
        have hPc := hP.sub (ws' := [(a_this, .inr (2, [.int i_this_kind, .ref a_this_widths, .int i_this_checks, .int i_this_symbols, .int i_this_rowLength, .int i_this_highestBar, .int i_this_fourHeights, .int i_this_barBits, .int i_this_symbolBars, .int i_this_checkKey]))]) [0] rfl
        refine vp_callSi (W.runV (As := [.int v6]) (rest := [.int v3, .ref a_p0]) ⟨hx, hb, hml, hown, hts⟩ (c_X2_fromOtherSide l dC dI cI cJ cZ a_this a_this_widths i_this_kind i_this_checks i_this_symbols i_this_rowLength i_this_highestBar i_this_fourHeights i_this_barBits i_this_symbolBars i_this_checkKey v6 y34) (cwV 1 hts gX2_turn_X2_fromOtherSide rfl rfl rfl (by decide +kernel) ⟨Nat.le_of_ble_eq_true rfl, Nat.le_of_ble_eq_true rfl⟩) ⟨fun a U g mk q => by obtain ⟨q0, qP, qK⟩ := q; exact ⟨q0, qP, va_K.moved (u := U) (U := U.calling g mk a) (Vm.Alike.refl U.vm) qK⟩, va_recv hK hPc (ci := 2) (q0 := 0) rfl rfl, fun U hU hW => ⟨rfl, by rw [hU]; exact hPc, va_K.moved hW.alike hK⟩⟩ rfl rfl hl.1 rfl (lv_room (Nat.le_of_ble_eq_true rfl)) dX2_turn_34 ⟨Nat.zero_le _, Nat.zero_le _⟩) (fun w34 ew34 => ?_)
        have ew34 := ew34.symm
        subst ew34
        obtain ⟨q37, h⟩ := im_st_u h
        refine va_iast hx hb hK hP hD hS 1 0 rfl rfl q37 dX2_turn_37 (fun H locs hP hD hS => ?_)
        obtain ⟨f11, ef11⟩ : ∃ g : Nat → Int32, g = upd f9 v3.toNatClampNeg v10 := ⟨_, rfl⟩
        replace h := h f11 ef11
        rw [← ef11] at hP hD
        have hP : va_P (dC, dI) vwCl [(a_this, .inr (2, [.int i_this_kind, .ref a_this_widths, .int i_this_checks, .int i_this_symbols, .int i_this_rowLength, .int i_this_highestBar, .int i_this_fourHeights, .int i_this_barBits, .int i_this_symbolBars, .int i_this_checkKey])), (a_p0, .inl (cI, n_p0, .inl f11))] H := hP
        have hD : va_D A [(a_this, .inr (2, [.int i_this_kind, .ref a_this_widths, .int i_this_checks, .int i_this_symbols, .int i_this_rowLength, .int i_this_highestBar, .int i_this_fourHeights, .int i_this_barBits, .int i_this_symbolBars, .int i_this_checkKey])), (a_p0, .inl (cI, n_p0, .inl f11))] := hD
        obtain ⟨v12, ev12⟩ : ∃ y : Int32, y = (v2 + (1 : Int32)) := ⟨_, rfl⟩
        replace h := im_lt_u h v12 ev12
        refine lv_iinc (v := v12) (lv' := [(2, .int v12), (4, .int v6), (0, .ref a_this), (1, .ref a_p0), (3, .int v3)]) hx hb dX2_turn_38 hl (k := 3) rfl (by rw [ev12]; rfl) (by decide) rfl (fun ls hl => ?_)
        obtain ⟨v13, ev13⟩ : ∃ y : Int32, y = (v3 + (-1 : Int32)) := ⟨_, rfl⟩
        replace h := im_lt_u h v13 ev13
        refine lv_iinc (v := v13) (lv' := [(3, .int v13), (2, .int v12), (4, .int v6), (0, .ref a_this), (1, .ref a_p0)]) hx hb dX2_turn_41 hl (k := 4) rfl (by rw [ev13]; rfl) (by decide) rfl (fun ls hl => ?_)
        refine lv_goto (tgt := 9) hx hb dX2_turn_44 (by decide) ?_
        exact ih v12 v13 f11 h _ _ _ hP hD hS (lv_sub hl [3, 4, 1, 0] rfl)
  exact Lp5 5000 (0 : Int32) v1 f_p0 h _ _ _ hP hD hS (lv_sub hl [2, 3, 1, 0] rfl)
