def im_X0_fillPowers_L9 (n_this_powers : Nat) : Nat → Int32 → Int32 → (Nat → Int32) → Option ((Nat → Int32))
  | 0, _, _, _ => none
  | n + 1, v2, v3, f4 => if v3 < 0 then (some f4) else im_st n_this_powers f4 v3 v2 (fun f6 => im_b1 (im_X1_product v2 (2 : Int32)) (fun v7 => im_lt (v3 + (-1 : Int32)) (fun v8 => (im_X0_fillPowers_L9 n_this_powers n v7 v8 f6))))
def im_X0_fillPowers (i_this_length : Int32) (n_this_powers : Nat) (f_this_powers : Nat → Int32) : Option ((Nat → Int32)) := im_lt (i_this_length - (1 : Int32)) (fun v1 => (im_X0_fillPowers_L9 n_this_powers 5000 (1 : Int32) v1 f_this_powers))
abbrev rm_X0_fillPowers : Room := { frames := 1, cells := 0, slots := 0, locals := 24 }
theorem hn_X0_fillPowers_X0 : ∀ w ∈ wsX00, w ∈ wsX0_fillPowers := by decide +kernel
theorem fl_X0_fillPowers_9 : Cond.fieldLink RX0 9 "BarCodes$CheckCode" "length" "I" ∈ wsX0_fillPowers := by decide +kernel
theorem fl_X0_fillPowers_22 : Cond.fieldLink RX0 22 "BarCodes$CheckCode" "powers" "[I" ∈ wsX0_fillPowers := by decide +kernel
set_option maxHeartbeats 4000000 in
set_option maxRecDepth 100000 in
theorem c_X0_fillPowers (l : Launch) (dC : Nat → ClassId) (dI : Nat → Nat → Nat) (cI cJ cZ : ClassId) (sz : Nat) (a_this a_this_generator a_this_powers a_this_syndromes a_this_locator a_this_former a_this_next a_this_evaluator a_this_slope : Nat) (i_this_length i_this_checks : Int32) (n_this_powers : Nat) (f_this_powers : Nat → Int32) {r : (Nat → Int32)} (h : im_X0_fillPowers i_this_length n_this_powers f_this_powers = some r) : Met l yX0_fillPowers wsX0_fillPowers rm_X0_fillPowers (va_Pc [.ref a_this] (fun U => U.heap.size = sz ∧ va_P (dC, dI) vwCl [(a_this, .inr (1, [.int i_this_length, .int i_this_checks, .ref a_this_generator, .ref a_this_powers, .ref a_this_syndromes, .ref a_this_locator, .ref a_this_former, .ref a_this_next, .ref a_this_evaluator, .ref a_this_slope])), (a_this_powers, .inl (cI, n_this_powers, .inl f_this_powers))] U.heap ∧ va_K (dC, dI) vwCl [(cI, .int), (cJ, .long), (cZ, .boolean)] U ∧ va_D (fun _ => True) [(a_this, .inr (1, [.int i_this_length, .int i_this_checks, .ref a_this_generator, .ref a_this_powers, .ref a_this_syndromes, .ref a_this_locator, .ref a_this_former, .ref a_this_next, .ref a_this_evaluator, .ref a_this_slope])), (a_this_powers, .inl (cI, n_this_powers, .inl f_this_powers))])) (va_Qv (S := (Nat → Int32)) (fun u9 => u9 = r) (fun u9 t9 => va_P (dC, dI) vwCl [(a_this, .inr (1, [.int i_this_length, .int i_this_checks, .ref a_this_generator, .ref a_this_powers, .ref a_this_syndromes, .ref a_this_locator, .ref a_this_former, .ref a_this_next, .ref a_this_evaluator, .ref a_this_slope])), (a_this_powers, .inl (cI, n_this_powers, .inl (u9)))] t9.heap ∧ va_K (dC, dI) vwCl [(cI, .int), (cJ, .long), (cZ, .boolean)] t9 ∧ va_D (va_A [(a_this, .inr (1, [.int i_this_length, .int i_this_checks, .ref a_this_generator, .ref a_this_powers, .ref a_this_syndromes, .ref a_this_locator, .ref a_this_former, .ref a_this_next, .ref a_this_evaluator, .ref a_this_slope])), (a_this_powers, .inl (cI, n_this_powers, .inl f_this_powers))] sz) [(a_this, .inr (1, [.int i_this_length, .int i_this_checks, .ref a_this_generator, .ref a_this_powers, .ref a_this_syndromes, .ref a_this_locator, .ref a_this_former, .ref a_this_next, .ref a_this_evaluator, .ref a_this_slope])), (a_this_powers, .inl (cI, n_this_powers, .inl (u9)))]) (va_A [(a_this, .inr (1, [.int i_this_length, .int i_this_checks, .ref a_this_generator, .ref a_this_powers, .ref a_this_syndromes, .ref a_this_locator, .ref a_this_former, .ref a_this_next, .ref a_this_evaluator, .ref a_this_slope])), (a_this_powers, .inl (cI, n_this_powers, .inl f_this_powers))] sz)) 0 0 (va_A [(a_this, .inr (1, [.int i_this_length, .int i_this_checks, .ref a_this_generator, .ref a_this_powers, .ref a_this_syndromes, .ref a_this_locator, .ref a_this_former, .ref a_this_next, .ref a_this_evaluator, .ref a_this_slope])), (a_this_powers, .inl (cI, n_this_powers, .inl f_this_powers))] sz) := by
  refine Met.ofW (cc := cX0_fillPowers) (maxL := 3) (ret := none) (by decide) rfl ?_
  intro p e s m args below meth c s₁ B hml hv
  obtain ⟨eargs, hsz, hP, hK, hD0⟩ := hv
  have hx := B.exec
  have hb := B.bytes
  have hr := B.returns
  have hts := atoms_spec (ws := wsX0_fillPowers) B.pre
  have hown : s.vm.findClass RX0 = some m.cls := findClass_of_methodNamed B.named
  have hlocks := B.notSynchronized
  refine im_Q (fun Q eQ => ?_)
  subst hsz
  have hD := hD0.self (sz := s.heap.size)
  generalize hAe : va_A [(a_this, .inr (1, [.int i_this_length, .int i_this_checks, .ref a_this_generator, .ref a_this_powers, .ref a_this_syndromes, .ref a_this_locator, .ref a_this_former, .ref a_this_next, .ref a_this_evaluator, .ref a_this_slope])), (a_this_powers, .inl (cI, n_this_powers, .inl f_this_powers))] s.heap.size = A at hD eQ
  have hA : ∀ q : Nat, s.heap.size ≤ q → A q := fun q h => by rw [← hAe]; exact Or.inr h
  have hS : va_S A s.heap s.heap [] := va_S.rf
  have hl := lv_entry [.ref a_this] (n := 3) (Nat.le_of_ble_eq_true rfl)
  rw [show entryFrame m args 3 = entryFrame m ([.ref a_this] : List Value).toArray 3 by rw [eargs], lg_entry_eq]
  generalize (lg_sl ([.ref a_this]) ++ List.replicate (3 - (lg_sl ([.ref a_this])).length) Slot.unset).toArray = ls at hl ⊢
  have hl : lv_has ls 3 [(0, .ref a_this)] := hl
  rw [im_X0_fillPowers] at h
  refine lv_iconst (v := (1 : Int32)) hx hb dX0_fillPowers_0 (by decide) ?_
  refine lv_istore_n (lv' := [(1, .int (1 : Int32)), (0, .ref a_this)]) hx hb dX0_fillPowers_1 rfl hl (by decide) rfl (fun ls hl => ?_)
  refine lv_aload_n hx hb dX0_fillPowers_2 rfl (lv_at hl 1 rfl) ?_
  refine va_get (D := (dC, dI)) (ci := 1) (v := .int i_this_length) (C := RX0) (T := TX0) (N := 10) hx hb hts hn_X0_fillPowers_X0 hown hK hP 0 rfl rfl 0 (by decide) (hts _ fl_X0_fillPowers_9) (fun _ h9 => h9) rfl dX0_fillPowers_3 ?_
  refine lv_iconst (v := (1 : Int32)) hx hb dX0_fillPowers_6 (by decide) ?_
  refine lv_isub hx hb dX0_fillPowers_7 ?_
  refine lv_topi (fun v1 ev1 => ?_)
  replace h := im_lt_u h v1 ev1
  refine lv_istore_n (lv' := [(2, .int v1), (1, .int (1 : Int32)), (0, .ref a_this)]) hx hb dX0_fillPowers_8 rfl hl (by decide) rfl (fun ls hl => ?_)
  have Lp5 : ∀ (n : Nat) (v2 : Int32) (v3 : Int32) (f4 : Nat → Int32), im_X0_fillPowers_L9 n_this_powers n v2 v3 f4 = some r → ∀ (H : Heap) (locs : List Loc) (ls : Array Slot), va_P (dC, dI) vwCl [(a_this, .inr (1, [.int i_this_length, .int i_this_checks, .ref a_this_generator, .ref a_this_powers, .ref a_this_syndromes, .ref a_this_locator, .ref a_this_former, .ref a_this_next, .ref a_this_evaluator, .ref a_this_slope])), (a_this_powers, .inl (cI, n_this_powers, .inl f4))] H → va_D A [(a_this, .inr (1, [.int i_this_length, .int i_this_checks, .ref a_this_generator, .ref a_this_powers, .ref a_this_syndromes, .ref a_this_locator, .ref a_this_former, .ref a_this_next, .ref a_this_evaluator, .ref a_this_slope])), (a_this_powers, .inl (cI, n_this_powers, .inl f4))] → va_S A s.heap H locs → lv_has ls 3 [(0, .ref a_this), (1, .int v2), (2, .int v3)] → W p l e (headSpec wsX0_fillPowers rm_X0_fillPowers).room s m args below meth c H locs 0 0 Q (F0 m 9 ls []) := by
    intro n
    induction n with
    | zero => intro v2 v3 f4 h; rw [im_X0_fillPowers_L9] at h; cases h
    | succ n ih =>
      intro v2 v3 f4 h H locs ls hP hD hS hl
      rw [im_X0_fillPowers_L9] at h
      refine lv_iload_n hx hb dX0_fillPowers_9 rfl (lv_at hl 2 rfl) ?_
      refine lv_if_lt (tgt := 32) hx hb dX0_fillPowers_10 (by decide) (fun c10 => ?_) (fun c10 => ?_)
      · replace h := im_t c10 h
        rw [eQ]
        exact W.vret hx hb hr (fun t ht hW => ⟨⟨f4, rfl, Option.some.inj h, by rw [ht]; exact hP, va_K.moved hW.alike hK, hD⟩, hS.F ht⟩) hS.2.2 dX0_fillPowers_32
      · replace h := im_f c10 h
        refine lv_aload_n hx hb dX0_fillPowers_13 rfl (lv_at hl 0 rfl) ?_
        refine va_get (D := (dC, dI)) (ci := 1) (v := .ref a_this_powers) (C := RX0) (T := TX0) (N := 10) hx hb hts hn_X0_fillPowers_X0 hown hK hP 0 rfl rfl 3 (by decide) (hts _ fl_X0_fillPowers_22) (fun _ h9 => h9) rfl dX0_fillPowers_14 ?_
        refine lv_iload_n hx hb dX0_fillPowers_17 rfl (lv_at hl 2 rfl) ?_
        refine lv_iload_n hx hb dX0_fillPowers_18 rfl (lv_at hl 1 rfl) ?_
        obtain ⟨q19, h⟩ := im_st_u h
        refine va_iast hx hb hK hP hD hS 1 0 rfl rfl q19 dX0_fillPowers_19 (fun H locs hP hD hS => ?_)
        obtain ⟨f6, ef6⟩ : ∃ g : Nat → Int32, g = upd f4 v3.toNatClampNeg v2 := ⟨_, rfl⟩
        replace h := h f6 ef6
        rw [← ef6] at hP hD
        have hP : va_P (dC, dI) vwCl [(a_this, .inr (1, [.int i_this_length, .int i_this_checks, .ref a_this_generator, .ref a_this_powers, .ref a_this_syndromes, .ref a_this_locator, .ref a_this_former, .ref a_this_next, .ref a_this_evaluator, .ref a_this_slope])), (a_this_powers, .inl (cI, n_this_powers, .inl f6))] H := hP
        have hD : va_D A [(a_this, .inr (1, [.int i_this_length, .int i_this_checks, .ref a_this_generator, .ref a_this_powers, .ref a_this_syndromes, .ref a_this_locator, .ref a_this_former, .ref a_this_next, .ref a_this_evaluator, .ref a_this_slope])), (a_this_powers, .inl (cI, n_this_powers, .inl f6))] := hD
        refine lv_iload_n hx hb dX0_fillPowers_20 rfl (lv_at hl 1 rfl) ?_
        refine lv_iconst (v := (2 : Int32)) hx hb dX0_fillPowers_21 (by decide) ?_
        obtain ⟨v7, y22, h⟩ := im_b1_u h
        refine vp_callSi (W.runS (As := [.int v2, .int (2 : Int32)]) (rest := []) ⟨hx, hb, hml, hown, hts⟩ (c_X1_product l v2 (2 : Int32) y22) (va_cwS 2 hts gX0_fillPowers_X1_product rfl rfl rfl (by decide +kernel) ⟨Nat.le_of_ble_eq_true rfl, Nat.le_of_ble_eq_true rfl⟩) ⟨fun _ _ _ _ q => q, fun U hU hW => ⟨rfl, trivial⟩⟩ rfl rfl hl.1 rfl (lv_room (Nat.le_of_ble_eq_true rfl)) dX0_fillPowers_22 ⟨Nat.zero_le _, Nat.zero_le _⟩) (fun w22 ew22 => ?_)
        have ew22 := ew22.symm
        subst ew22
        refine lv_istore_n (lv' := [(1, .int v7), (0, .ref a_this), (2, .int v3)]) hx hb dX0_fillPowers_25 rfl hl (by decide) rfl (fun ls hl => ?_)
        obtain ⟨v8, ev8⟩ : ∃ y : Int32, y = (v3 + (-1 : Int32)) := ⟨_, rfl⟩
        replace h := im_lt_u h v8 ev8
        refine lv_iinc (v := v8) (lv' := [(2, .int v8), (1, .int v7), (0, .ref a_this)]) hx hb dX0_fillPowers_26 hl (k := 2) rfl (by rw [ev8]; rfl) (by decide) rfl (fun ls hl => ?_)
        refine lv_goto (tgt := 9) hx hb dX0_fillPowers_29 (by decide) ?_
        exact ih v7 v8 f6 h _ _ _ hP hD hS (lv_sub hl [2, 1, 0] rfl)
  exact Lp5 5000 (1 : Int32) v1 f_this_powers h _ _ _ hP hD hS (lv_sub hl [2, 1, 0] rfl)
def im_X0_fillGenerator_L30 (K8 : (Nat → Int32) → Option ((Nat → Int32))) (n_this_generator : Nat) (v6 : Int32) : Nat → Int32 → (Nat → Int32) → Option ((Nat → Int32))
  | 0, _, _ => none
  | n + 1, v13, f14 => if v13 ≤ 0 then (K8 f14) else im_lt (v13 - (1 : Int32)) (fun v16 => im_ld n_this_generator f14 v16 (fun v17 => im_ld n_this_generator f14 v13 (fun v18 => im_b1 (im_X1_product v6 v18) (fun v19 => im_lt (v17 ^^^ v19) (fun v20 => im_st n_this_generator f14 v13 v20 (fun f21 => im_lt (v13 + (-1 : Int32)) (fun v22 => (im_X0_fillGenerator_L30 K8 n_this_generator v6 n v22 f21))))))))
def im_X0_fillGenerator_L11 (i_this_checks : Int32) (n_this_generator : Nat) : Nat → Int32 → Int32 → (Nat → Int32) → Option ((Nat → Int32))
  | 0, _, _, _ => none
  | n + 1, v2, v3, f4 => if i_this_checks ≤ v3 then (some f4) else im_b1 (im_X1_product v2 (2 : Int32)) (fun v6 => im_j1 (fun (f7 : Nat → Int32) => im_ld n_this_generator f7 (0 : Int32) (fun v9 => im_b1 (im_X1_product v6 v9) (fun v10 => im_st n_this_generator f7 (0 : Int32) v10 (fun f11 => im_lt (v3 + (1 : Int32)) (fun v12 => (im_X0_fillGenerator_L11 i_this_checks n_this_generator n v6 v12 f11)))))) (fun K8 => (im_X0_fillGenerator_L30 K8 n_this_generator v6 5000 i_this_checks f4)))
def im_X0_fillGenerator (i_this_checks : Int32) (n_this_generator : Nat) (f_this_generator : Nat → Int32) : Option ((Nat → Int32)) := im_st n_this_generator f_this_generator (0 : Int32) (1 : Int32) (fun f1 => (im_X0_fillGenerator_L11 i_this_checks n_this_generator 5000 (1 : Int32) (0 : Int32) f1))
abbrev rm_X0_fillGenerator : Room := { frames := 1, cells := 0, slots := 0, locals := 24 }
theorem hn_X0_fillGenerator_X0 : ∀ w ∈ wsX00, w ∈ wsX0_fillGenerator := by decide +kernel
theorem fl_X0_fillGenerator_18 : Cond.fieldLink RX0 18 "BarCodes$CheckCode" "generator" "[I" ∈ wsX0_fillGenerator := by decide +kernel
theorem fl_X0_fillGenerator_15 : Cond.fieldLink RX0 15 "BarCodes$CheckCode" "checks" "I" ∈ wsX0_fillGenerator := by decide +kernel
set_option maxHeartbeats 4000000 in
set_option maxRecDepth 100000 in
theorem c_X0_fillGenerator (l : Launch) (dC : Nat → ClassId) (dI : Nat → Nat → Nat) (cI cJ cZ : ClassId) (sz : Nat) (a_this a_this_generator a_this_powers a_this_syndromes a_this_locator a_this_former a_this_next a_this_evaluator a_this_slope : Nat) (i_this_length i_this_checks : Int32) (n_this_generator : Nat) (f_this_generator : Nat → Int32) {r : (Nat → Int32)} (h : im_X0_fillGenerator i_this_checks n_this_generator f_this_generator = some r) : Met l yX0_fillGenerator wsX0_fillGenerator rm_X0_fillGenerator (va_Pc [.ref a_this] (fun U => U.heap.size = sz ∧ va_P (dC, dI) vwCl [(a_this, .inr (1, [.int i_this_length, .int i_this_checks, .ref a_this_generator, .ref a_this_powers, .ref a_this_syndromes, .ref a_this_locator, .ref a_this_former, .ref a_this_next, .ref a_this_evaluator, .ref a_this_slope])), (a_this_generator, .inl (cI, n_this_generator, .inl f_this_generator))] U.heap ∧ va_K (dC, dI) vwCl [(cI, .int), (cJ, .long), (cZ, .boolean)] U ∧ va_D (fun _ => True) [(a_this, .inr (1, [.int i_this_length, .int i_this_checks, .ref a_this_generator, .ref a_this_powers, .ref a_this_syndromes, .ref a_this_locator, .ref a_this_former, .ref a_this_next, .ref a_this_evaluator, .ref a_this_slope])), (a_this_generator, .inl (cI, n_this_generator, .inl f_this_generator))])) (va_Qv (S := (Nat → Int32)) (fun u9 => u9 = r) (fun u9 t9 => va_P (dC, dI) vwCl [(a_this, .inr (1, [.int i_this_length, .int i_this_checks, .ref a_this_generator, .ref a_this_powers, .ref a_this_syndromes, .ref a_this_locator, .ref a_this_former, .ref a_this_next, .ref a_this_evaluator, .ref a_this_slope])), (a_this_generator, .inl (cI, n_this_generator, .inl (u9)))] t9.heap ∧ va_K (dC, dI) vwCl [(cI, .int), (cJ, .long), (cZ, .boolean)] t9 ∧ va_D (va_A [(a_this, .inr (1, [.int i_this_length, .int i_this_checks, .ref a_this_generator, .ref a_this_powers, .ref a_this_syndromes, .ref a_this_locator, .ref a_this_former, .ref a_this_next, .ref a_this_evaluator, .ref a_this_slope])), (a_this_generator, .inl (cI, n_this_generator, .inl f_this_generator))] sz) [(a_this, .inr (1, [.int i_this_length, .int i_this_checks, .ref a_this_generator, .ref a_this_powers, .ref a_this_syndromes, .ref a_this_locator, .ref a_this_former, .ref a_this_next, .ref a_this_evaluator, .ref a_this_slope])), (a_this_generator, .inl (cI, n_this_generator, .inl (u9)))]) (va_A [(a_this, .inr (1, [.int i_this_length, .int i_this_checks, .ref a_this_generator, .ref a_this_powers, .ref a_this_syndromes, .ref a_this_locator, .ref a_this_former, .ref a_this_next, .ref a_this_evaluator, .ref a_this_slope])), (a_this_generator, .inl (cI, n_this_generator, .inl f_this_generator))] sz)) 0 0 (va_A [(a_this, .inr (1, [.int i_this_length, .int i_this_checks, .ref a_this_generator, .ref a_this_powers, .ref a_this_syndromes, .ref a_this_locator, .ref a_this_former, .ref a_this_next, .ref a_this_evaluator, .ref a_this_slope])), (a_this_generator, .inl (cI, n_this_generator, .inl f_this_generator))] sz) := by
  refine Met.ofW (cc := cX0_fillGenerator) (maxL := 4) (ret := none) (by decide) rfl ?_
  intro p e s m args below meth c s₁ B hml hv
  obtain ⟨eargs, hsz, hP, hK, hD0⟩ := hv
  have hx := B.exec
  have hb := B.bytes
  have hr := B.returns
  have hts := atoms_spec (ws := wsX0_fillGenerator) B.pre
  have hown : s.vm.findClass RX0 = some m.cls := findClass_of_methodNamed B.named
  have hlocks := B.notSynchronized
  refine im_Q (fun Q eQ => ?_)
  subst hsz
  have hD := hD0.self (sz := s.heap.size)
  generalize hAe : va_A [(a_this, .inr (1, [.int i_this_length, .int i_this_checks, .ref a_this_generator, .ref a_this_powers, .ref a_this_syndromes, .ref a_this_locator, .ref a_this_former, .ref a_this_next, .ref a_this_evaluator, .ref a_this_slope])), (a_this_generator, .inl (cI, n_this_generator, .inl f_this_generator))] s.heap.size = A at hD eQ
  have hA : ∀ q : Nat, s.heap.size ≤ q → A q := fun q h => by rw [← hAe]; exact Or.inr h
  have hS : va_S A s.heap s.heap [] := va_S.rf
  have hl := lv_entry [.ref a_this] (n := 4) (Nat.le_of_ble_eq_true rfl)
  rw [show entryFrame m args 4 = entryFrame m ([.ref a_this] : List Value).toArray 4 by rw [eargs], lg_entry_eq]
  generalize (lg_sl ([.ref a_this]) ++ List.replicate (4 - (lg_sl ([.ref a_this])).length) Slot.unset).toArray = ls at hl ⊢
  have hl : lv_has ls 4 [(0, .ref a_this)] := hl
  rw [im_X0_fillGenerator] at h
  refine lv_aload_n hx hb dX0_fillGenerator_0 rfl (lv_at hl 0 rfl) ?_
  refine va_get (D := (dC, dI)) (ci := 1) (v := .ref a_this_generator) (C := RX0) (T := TX0) (N := 10) hx hb hts hn_X0_fillGenerator_X0 hown hK hP 0 rfl rfl 2 (by decide) (hts _ fl_X0_fillGenerator_18) (fun _ h9 => h9) rfl dX0_fillGenerator_1 ?_
  refine lv_iconst (v := (0 : Int32)) hx hb dX0_fillGenerator_4 (by decide) ?_
  refine lv_iconst (v := (1 : Int32)) hx hb dX0_fillGenerator_5 (by decide) ?_
  obtain ⟨q6, h⟩ := im_st_u h
  refine va_iast hx hb hK hP hD hS 1 0 rfl rfl q6 dX0_fillGenerator_6 (fun H locs hP hD hS => ?_)
  obtain ⟨f1, ef1⟩ : ∃ g : Nat → Int32, g = upd f_this_generator (0 : Int32).toNatClampNeg (1 : Int32) := ⟨_, rfl⟩
  replace h := h f1 ef1
  rw [← ef1] at hP hD
  have hP : va_P (dC, dI) vwCl [(a_this, .inr (1, [.int i_this_length, .int i_this_checks, .ref a_this_generator, .ref a_this_powers, .ref a_this_syndromes, .ref a_this_locator, .ref a_this_former, .ref a_this_next, .ref a_this_evaluator, .ref a_this_slope])), (a_this_generator, .inl (cI, n_this_generator, .inl f1))] H := hP
  have hD : va_D A [(a_this, .inr (1, [.int i_this_length, .int i_this_checks, .ref a_this_generator, .ref a_this_powers, .ref a_this_syndromes, .ref a_this_locator, .ref a_this_former, .ref a_this_next, .ref a_this_evaluator, .ref a_this_slope])), (a_this_generator, .inl (cI, n_this_generator, .inl f1))] := hD
  refine lv_iconst (v := (1 : Int32)) hx hb dX0_fillGenerator_7 (by decide) ?_
  refine lv_istore_n (lv' := [(1, .int (1 : Int32)), (0, .ref a_this)]) hx hb dX0_fillGenerator_8 rfl hl (by decide) rfl (fun ls hl => ?_)
  refine lv_iconst (v := (0 : Int32)) hx hb dX0_fillGenerator_9 (by decide) ?_
  refine lv_istore_n (lv' := [(2, .int (0 : Int32)), (1, .int (1 : Int32)), (0, .ref a_this)]) hx hb dX0_fillGenerator_10 rfl hl (by decide) rfl (fun ls hl => ?_)
  have Lp5 : ∀ (n : Nat) (v2 : Int32) (v3 : Int32) (f4 : Nat → Int32), im_X0_fillGenerator_L11 i_this_checks n_this_generator n v2 v3 f4 = some r → ∀ (H : Heap) (locs : List Loc) (ls : Array Slot), va_P (dC, dI) vwCl [(a_this, .inr (1, [.int i_this_length, .int i_this_checks, .ref a_this_generator, .ref a_this_powers, .ref a_this_syndromes, .ref a_this_locator, .ref a_this_former, .ref a_this_next, .ref a_this_evaluator, .ref a_this_slope])), (a_this_generator, .inl (cI, n_this_generator, .inl f4))] H → va_D A [(a_this, .inr (1, [.int i_this_length, .int i_this_checks, .ref a_this_generator, .ref a_this_powers, .ref a_this_syndromes, .ref a_this_locator, .ref a_this_former, .ref a_this_next, .ref a_this_evaluator, .ref a_this_slope])), (a_this_generator, .inl (cI, n_this_generator, .inl f4))] → va_S A s.heap H locs → lv_has ls 4 [(0, .ref a_this), (1, .int v2), (2, .int v3)] → W p l e (headSpec wsX0_fillGenerator rm_X0_fillGenerator).room s m args below meth c H locs 0 0 Q (F0 m 11 ls []) := by
    intro n
    induction n with
    | zero => intro v2 v3 f4 h; rw [im_X0_fillGenerator_L11] at h; cases h
    | succ n ih =>
      intro v2 v3 f4 h H locs ls hP hD hS hl
      rw [im_X0_fillGenerator_L11] at h
      refine lv_iload_n hx hb dX0_fillGenerator_11 rfl (lv_at hl 2 rfl) ?_
      refine lv_aload_n hx hb dX0_fillGenerator_12 rfl (lv_at hl 0 rfl) ?_
      refine va_get (D := (dC, dI)) (ci := 1) (v := .int i_this_checks) (C := RX0) (T := TX0) (N := 10) hx hb hts hn_X0_fillGenerator_X0 hown hK hP 0 rfl rfl 1 (by decide) (hts _ fl_X0_fillGenerator_15) (fun _ h9 => h9) rfl dX0_fillGenerator_13 ?_
      refine lv_icmp_ge (tgt := 87) hx hb dX0_fillGenerator_16 (by decide) (fun c16 => ?_) (fun c16 => ?_)
      · replace h := im_t c16 h
        rw [eQ]
        exact W.vret hx hb hr (fun t ht hW => ⟨⟨f4, rfl, Option.some.inj h, by rw [ht]; exact hP, va_K.moved hW.alike hK, hD⟩, hS.F ht⟩) hS.2.2 dX0_fillGenerator_87
      · replace h := im_f c16 h
        refine lv_iload_n hx hb dX0_fillGenerator_19 rfl (lv_at hl 1 rfl) ?_
        refine lv_iconst (v := (2 : Int32)) hx hb dX0_fillGenerator_20 (by decide) ?_
        obtain ⟨v6, y21, h⟩ := im_b1_u h
        refine vp_callSi (W.runS (As := [.int v2, .int (2 : Int32)]) (rest := []) ⟨hx, hb, hml, hown, hts⟩ (c_X1_product l v2 (2 : Int32) y21) (va_cwS 2 hts gX0_fillGenerator_X1_product rfl rfl rfl (by decide +kernel) ⟨Nat.le_of_ble_eq_true rfl, Nat.le_of_ble_eq_true rfl⟩) ⟨fun _ _ _ _ q => q, fun U hU hW => ⟨rfl, trivial⟩⟩ rfl rfl hl.1 rfl (lv_room (Nat.le_of_ble_eq_true rfl)) dX0_fillGenerator_21 ⟨Nat.zero_le _, Nat.zero_le _⟩) (fun w21 ew21 => ?_)
        have ew21 := ew21.symm
        subst ew21
        refine lv_istore_n (lv' := [(1, .int v6), (0, .ref a_this), (2, .int v3)]) hx hb dX0_fillGenerator_24 rfl hl (by decide) rfl (fun ls hl => ?_)
        refine lv_aload_n hx hb dX0_fillGenerator_25 rfl (lv_at hl 1 rfl) ?_
        refine va_get (D := (dC, dI)) (ci := 1) (v := .int i_this_checks) (C := RX0) (T := TX0) (N := 10) hx hb hts hn_X0_fillGenerator_X0 hown hK hP 0 rfl rfl 1 (by decide) (hts _ fl_X0_fillGenerator_15) (fun _ h9 => h9) rfl dX0_fillGenerator_26 ?_
        refine lv_istore_n (lv' := [(3, .int i_this_checks), (1, .int v6), (0, .ref a_this), (2, .int v3)]) hx hb dX0_fillGenerator_29 rfl hl (by decide) rfl (fun ls hl => ?_)
        refine im_j1_u (P := fun f7 => ∀ (H : Heap) (locs : List Loc) (ls : Array Slot), va_P (dC, dI) vwCl [(a_this, .inr (1, [.int i_this_length, .int i_this_checks, .ref a_this_generator, .ref a_this_powers, .ref a_this_syndromes, .ref a_this_locator, .ref a_this_former, .ref a_this_next, .ref a_this_evaluator, .ref a_this_slope])), (a_this_generator, .inl (cI, n_this_generator, .inl f7))] H → va_D A [(a_this, .inr (1, [.int i_this_length, .int i_this_checks, .ref a_this_generator, .ref a_this_powers, .ref a_this_syndromes, .ref a_this_locator, .ref a_this_former, .ref a_this_next, .ref a_this_evaluator, .ref a_this_slope])), (a_this_generator, .inl (cI, n_this_generator, .inl f7))] → va_S A s.heap H locs → lv_has ls 4 [(0, .ref a_this), (1, .int v6), (2, .int v3)] → W p l e (headSpec wsX0_fillGenerator rm_X0_fillGenerator).room s m args below meth c H locs 0 0 Q (F0 m 65 ls [])) h (fun f7 h H locs ls hP hD hS hl => ?_) (fun K8 J8 h => ?_)
        · refine lv_aload_n hx hb dX0_fillGenerator_65 rfl (lv_at hl 0 rfl) ?_
          refine va_get (D := (dC, dI)) (ci := 1) (v := .ref a_this_generator) (C := RX0) (T := TX0) (N := 10) hx hb hts hn_X0_fillGenerator_X0 hown hK hP 0 rfl rfl 2 (by decide) (hts _ fl_X0_fillGenerator_18) (fun _ h9 => h9) rfl dX0_fillGenerator_66 ?_
          refine lv_iconst (v := (0 : Int32)) hx hb dX0_fillGenerator_69 (by decide) ?_
          refine lv_iload_n hx hb dX0_fillGenerator_70 rfl (lv_at hl 1 rfl) ?_
          refine lv_aload_n hx hb dX0_fillGenerator_71 rfl (lv_at hl 0 rfl) ?_
          refine va_get (D := (dC, dI)) (ci := 1) (v := .ref a_this_generator) (C := RX0) (T := TX0) (N := 10) hx hb hts hn_X0_fillGenerator_X0 hown hK hP 0 rfl rfl 2 (by decide) (hts _ fl_X0_fillGenerator_18) (fun _ h9 => h9) rfl dX0_fillGenerator_72 ?_
          refine lv_iconst (v := (0 : Int32)) hx hb dX0_fillGenerator_75 (by decide) ?_
          obtain ⟨q76, h⟩ := im_ld_u h
          refine va_iald hx hb hK hP 1 0 rfl rfl q76 dX0_fillGenerator_76 ?_
          refine lv_topi (fun v9 ev9 => ?_)
          replace h := h v9 ev9
          obtain ⟨v10, y77, h⟩ := im_b1_u h
          refine vp_callSi (W.runS (As := [.int v6, .int v9]) (rest := [.int (0 : Int32), .ref a_this_generator]) ⟨hx, hb, hml, hown, hts⟩ (c_X1_product l v6 v9 y77) (va_cwS 2 hts gX0_fillGenerator_X1_product rfl rfl rfl (by decide +kernel) ⟨Nat.le_of_ble_eq_true rfl, Nat.le_of_ble_eq_true rfl⟩) ⟨fun _ _ _ _ q => q, fun U hU hW => ⟨rfl, trivial⟩⟩ rfl rfl hl.1 rfl (lv_room (Nat.le_of_ble_eq_true rfl)) dX0_fillGenerator_77 ⟨Nat.zero_le _, Nat.zero_le _⟩) (fun w77 ew77 => ?_)
          have ew77 := ew77.symm
          subst ew77
          obtain ⟨q80, h⟩ := im_st_u h
          refine va_iast hx hb hK hP hD hS 1 0 rfl rfl q80 dX0_fillGenerator_80 (fun H locs hP hD hS => ?_)
          obtain ⟨f11, ef11⟩ : ∃ g : Nat → Int32, g = upd f7 (0 : Int32).toNatClampNeg v10 := ⟨_, rfl⟩
          replace h := h f11 ef11
          rw [← ef11] at hP hD
          have hP : va_P (dC, dI) vwCl [(a_this, .inr (1, [.int i_this_length, .int i_this_checks, .ref a_this_generator, .ref a_this_powers, .ref a_this_syndromes, .ref a_this_locator, .ref a_this_former, .ref a_this_next, .ref a_this_evaluator, .ref a_this_slope])), (a_this_generator, .inl (cI, n_this_generator, .inl f11))] H := hP
          have hD : va_D A [(a_this, .inr (1, [.int i_this_length, .int i_this_checks, .ref a_this_generator, .ref a_this_powers, .ref a_this_syndromes, .ref a_this_locator, .ref a_this_former, .ref a_this_next, .ref a_this_evaluator, .ref a_this_slope])), (a_this_generator, .inl (cI, n_this_generator, .inl f11))] := hD
          obtain ⟨v12, ev12⟩ : ∃ y : Int32, y = (v3 + (1 : Int32)) := ⟨_, rfl⟩
          replace h := im_lt_u h v12 ev12
          refine lv_iinc (v := v12) (lv' := [(2, .int v12), (0, .ref a_this), (1, .int v6)]) hx hb dX0_fillGenerator_81 hl (k := 2) rfl (by rw [ev12]; rfl) (by decide) rfl (fun ls hl => ?_)
          refine lv_goto (tgt := 11) hx hb dX0_fillGenerator_84 (by decide) ?_
          exact ih v6 v12 f11 h _ _ _ hP hD hS (lv_sub hl [1, 2, 0] rfl)
        · have Lp15 : ∀ (n : Nat) (v13 : Int32) (f14 : Nat → Int32), im_X0_fillGenerator_L30 K8 n_this_generator v6 n v13 f14 = some r → ∀ (H : Heap) (locs : List Loc) (ls : Array Slot), va_P (dC, dI) vwCl [(a_this, .inr (1, [.int i_this_length, .int i_this_checks, .ref a_this_generator, .ref a_this_powers, .ref a_this_syndromes, .ref a_this_locator, .ref a_this_former, .ref a_this_next, .ref a_this_evaluator, .ref a_this_slope])), (a_this_generator, .inl (cI, n_this_generator, .inl f14))] H → va_D A [(a_this, .inr (1, [.int i_this_length, .int i_this_checks, .ref a_this_generator, .ref a_this_powers, .ref a_this_syndromes, .ref a_this_locator, .ref a_this_former, .ref a_this_next, .ref a_this_evaluator, .ref a_this_slope])), (a_this_generator, .inl (cI, n_this_generator, .inl f14))] → va_S A s.heap H locs → lv_has ls 4 [(0, .ref a_this), (1, .int v6), (2, .int v3), (3, .int v13)] → W p l e (headSpec wsX0_fillGenerator rm_X0_fillGenerator).room s m args below meth c H locs 0 0 Q (F0 m 30 ls []) := by
            intro n
            induction n with
            | zero => intro v13 f14 h; rw [im_X0_fillGenerator_L30] at h; cases h
            | succ n ih =>
              intro v13 f14 h H locs ls hP hD hS hl
              rw [im_X0_fillGenerator_L30] at h
              refine lv_iload_n hx hb dX0_fillGenerator_30 rfl (lv_at hl 3 rfl) ?_
              refine lv_if_le (tgt := 65) hx hb dX0_fillGenerator_31 (by decide) (fun c31 => ?_) (fun c31 => ?_)
              · replace h := im_t c31 h
                exact J8 f14 h _ _ _ hP hD hS (lv_sub hl [0, 1, 2] rfl)
              · replace h := im_f c31 h
                refine lv_aload_n hx hb dX0_fillGenerator_34 rfl (lv_at hl 0 rfl) ?_
                refine va_get (D := (dC, dI)) (ci := 1) (v := .ref a_this_generator) (C := RX0) (T := TX0) (N := 10) hx hb hts hn_X0_fillGenerator_X0 hown hK hP 0 rfl rfl 2 (by decide) (hts _ fl_X0_fillGenerator_18) (fun _ h9 => h9) rfl dX0_fillGenerator_35 ?_
                refine lv_iload_n hx hb dX0_fillGenerator_38 rfl (lv_at hl 3 rfl) ?_
                refine lv_aload_n hx hb dX0_fillGenerator_39 rfl (lv_at hl 0 rfl) ?_
                refine va_get (D := (dC, dI)) (ci := 1) (v := .ref a_this_generator) (C := RX0) (T := TX0) (N := 10) hx hb hts hn_X0_fillGenerator_X0 hown hK hP 0 rfl rfl 2 (by decide) (hts _ fl_X0_fillGenerator_18) (fun _ h9 => h9) rfl dX0_fillGenerator_40 ?_
                refine lv_iload_n hx hb dX0_fillGenerator_43 rfl (lv_at hl 3 rfl) ?_
                refine lv_iconst (v := (1 : Int32)) hx hb dX0_fillGenerator_44 (by decide) ?_
                refine lv_isub hx hb dX0_fillGenerator_45 ?_
                refine lv_topi (fun v16 ev16 => ?_)
                replace h := im_lt_u h v16 ev16
                obtain ⟨q46, h⟩ := im_ld_u h
                refine va_iald hx hb hK hP 1 0 rfl rfl q46 dX0_fillGenerator_46 ?_
                refine lv_topi (fun v17 ev17 => ?_)
                replace h := h v17 ev17
                refine lv_iload_n hx hb dX0_fillGenerator_47 rfl (lv_at hl 1 rfl) ?_
                refine lv_aload_n hx hb dX0_fillGenerator_48 rfl (lv_at hl 0 rfl) ?_
                refine va_get (D := (dC, dI)) (ci := 1) (v := .ref a_this_generator) (C := RX0) (T := TX0) (N := 10) hx hb hts hn_X0_fillGenerator_X0 hown hK hP 0 rfl rfl 2 (by decide) (hts _ fl_X0_fillGenerator_18) (fun _ h9 => h9) rfl dX0_fillGenerator_49 ?_
                refine lv_iload_n hx hb dX0_fillGenerator_52 rfl (lv_at hl 3 rfl) ?_
                obtain ⟨q53, h⟩ := im_ld_u h
                refine va_iald hx hb hK hP 1 0 rfl rfl q53 dX0_fillGenerator_53 ?_
                refine lv_topi (fun v18 ev18 => ?_)
                replace h := h v18 ev18
                obtain ⟨v19, y54, h⟩ := im_b1_u h
                refine vp_callSi (W.runS (As := [.int v6, .int v18]) (rest := [.int v17, .int v13, .ref a_this_generator]) ⟨hx, hb, hml, hown, hts⟩ (c_X1_product l v6 v18 y54) (va_cwS 2 hts gX0_fillGenerator_X1_product rfl rfl rfl (by decide +kernel) ⟨Nat.le_of_ble_eq_true rfl, Nat.le_of_ble_eq_true rfl⟩) ⟨fun _ _ _ _ q => q, fun U hU hW => ⟨rfl, trivial⟩⟩ rfl rfl hl.1 rfl (lv_room (Nat.le_of_ble_eq_true rfl)) dX0_fillGenerator_54 ⟨Nat.zero_le _, Nat.zero_le _⟩) (fun w54 ew54 => ?_)
                have ew54 := ew54.symm
                subst ew54
                refine lv_ixor hx hb dX0_fillGenerator_57 ?_
                refine lv_topi (fun v20 ev20 => ?_)
                replace h := im_lt_u h v20 ev20
                obtain ⟨q58, h⟩ := im_st_u h
                refine va_iast hx hb hK hP hD hS 1 0 rfl rfl q58 dX0_fillGenerator_58 (fun H locs hP hD hS => ?_)
                obtain ⟨f21, ef21⟩ : ∃ g : Nat → Int32, g = upd f14 v13.toNatClampNeg v20 := ⟨_, rfl⟩
                replace h := h f21 ef21
                rw [← ef21] at hP hD
                have hP : va_P (dC, dI) vwCl [(a_this, .inr (1, [.int i_this_length, .int i_this_checks, .ref a_this_generator, .ref a_this_powers, .ref a_this_syndromes, .ref a_this_locator, .ref a_this_former, .ref a_this_next, .ref a_this_evaluator, .ref a_this_slope])), (a_this_generator, .inl (cI, n_this_generator, .inl f21))] H := hP
                have hD : va_D A [(a_this, .inr (1, [.int i_this_length, .int i_this_checks, .ref a_this_generator, .ref a_this_powers, .ref a_this_syndromes, .ref a_this_locator, .ref a_this_former, .ref a_this_next, .ref a_this_evaluator, .ref a_this_slope])), (a_this_generator, .inl (cI, n_this_generator, .inl f21))] := hD
                obtain ⟨v22, ev22⟩ : ∃ y : Int32, y = (v13 + (-1 : Int32)) := ⟨_, rfl⟩
                replace h := im_lt_u h v22 ev22
                refine lv_iinc (v := v22) (lv' := [(3, .int v22), (0, .ref a_this), (1, .int v6), (2, .int v3)]) hx hb dX0_fillGenerator_59 hl (k := 3) rfl (by rw [ev22]; rfl) (by decide) rfl (fun ls hl => ?_)
                refine lv_goto (tgt := 30) hx hb dX0_fillGenerator_62 (by decide) ?_
                exact ih v22 f21 h _ _ _ hP hD hS (lv_sub hl [1, 2, 3, 0] rfl)
          exact Lp15 5000 i_this_checks f4 h _ _ _ hP hD hS (lv_sub hl [2, 1, 3, 0] rfl)
  exact Lp5 5000 (1 : Int32) (0 : Int32) f1 h _ _ _ hP hD hS (lv_sub hl [2, 1, 0] rfl)
def im_X0_complete_L49 (i_this_checks : Int32) (K11 : (Nat → Int32) → Option ((Nat → Int32))) (v1 : Int32) (n_this_generator : Nat) (f_this_generator : Nat → Int32) (v9 : Int32) (n_p0 : Nat) : Nat → Int32 → (Nat → Int32) → Option ((Nat → Int32))
  | 0, _, _ => none
  | n + 1, v13, f14 => if i_this_checks ≤ v13 then (K11 f14) else im_j1 (fun (v16 : Int32) => im_lt (v1 + v13) (fun v18 => im_lt (i_this_checks - (1 : Int32)) (fun v19 => im_lt (v19 - v13) (fun v20 => im_ld n_this_generator f_this_generator v20 (fun v21 => im_b1 (im_X1_product v9 v21) (fun v22 => im_lt (v16 ^^^ v22) (fun v23 => im_st n_p0 f14 v18 v23 (fun f24 => im_lt (v13 + (1 : Int32)) (fun v25 => (im_X0_complete_L49 i_this_checks K11 v1 n_this_generator f_this_generator v9 n_p0 n v25 f24)))))))))) (fun K17 => im_lt (v13 + (1 : Int32)) (fun v26 => if i_this_checks ≤ v26 then (K17 (0 : Int32)) else im_lt (v1 + v13) (fun v27 => im_lt (v27 + (1 : Int32)) (fun v28 => im_ld n_p0 f14 v28 (fun v29 => (K17 v29))))))
def im_X0_complete_L32 (v1 : Int32) (n_p0 : Nat) (i_this_checks : Int32) (n_this_generator : Nat) (f_this_generator : Nat → Int32) : Nat → Int32 → (Nat → Int32) → Option ((Nat → Int32))
  | 0, _, _ => none
  | n + 1, v4, f5 => if v1 ≤ v4 then (some f5) else im_ld n_p0 f5 v4 (fun v7 => im_ld n_p0 f5 v1 (fun v8 => im_lt (v7 ^^^ v8) (fun v9 => im_j1 (fun (f10 : Nat → Int32) => im_lt (v4 + (1 : Int32)) (fun v12 => (im_X0_complete_L32 v1 n_p0 i_this_checks n_this_generator f_this_generator n v12 f10))) (fun K11 => (im_X0_complete_L49 i_this_checks K11 v1 n_this_generator f_this_generator v9 n_p0 5000 (0 : Int32) f5)))))
def im_X0_complete_L12 (i_this_length : Int32) (K3 : (Nat → Int32) → Option ((Nat → Int32))) (n_p0 : Nat) : Nat → Int32 → (Nat → Int32) → Option ((Nat → Int32))
  | 0, _, _ => none
  | n + 1, v30, f31 => if i_this_length ≤ v30 then (K3 f31) else im_st n_p0 f31 v30 (0 : Int32) (fun f33 => im_lt (v30 + (1 : Int32)) (fun v34 => (im_X0_complete_L12 i_this_length K3 n_p0 n v34 f33)))
def im_X0_complete (i_this_length : Int32) (i_this_checks : Int32) (n_p0 : Nat) (n_this_generator : Nat) (f_p0 : Nat → Int32) (f_this_generator : Nat → Int32) : Option ((Nat → Int32)) := im_lt (i_this_length - i_this_checks) (fun v1 => im_j1 (fun (f2 : Nat → Int32) => (im_X0_complete_L32 v1 n_p0 i_this_checks n_this_generator f_this_generator 5000 (0 : Int32) f2)) (fun K3 => (im_X0_complete_L12 i_this_length K3 n_p0 5000 v1 f_p0)))
abbrev rm_X0_complete : Room := { frames := 1, cells := 0, slots := 0, locals := 24 }
theorem hn_X0_complete_X0 : ∀ w ∈ wsX00, w ∈ wsX0_complete := by decide +kernel
theorem fl_X0_complete_9 : Cond.fieldLink RX0 9 "BarCodes$CheckCode" "length" "I" ∈ wsX0_complete := by decide +kernel
theorem fl_X0_complete_15 : Cond.fieldLink RX0 15 "BarCodes$CheckCode" "checks" "I" ∈ wsX0_complete := by decide +kernel
theorem fl_X0_complete_18 : Cond.fieldLink RX0 18 "BarCodes$CheckCode" "generator" "[I" ∈ wsX0_complete := by decide +kernel
set_option maxHeartbeats 4000000 in
set_option maxRecDepth 100000 in
theorem c_X0_complete (l : Launch) (dC : Nat → ClassId) (dI : Nat → Nat → Nat) (cI cJ cZ : ClassId) (sz : Nat) (a_this a_this_generator a_this_powers a_this_syndromes a_this_locator a_this_former a_this_next a_this_evaluator a_this_slope a_p0 : Nat) (i_this_length i_this_checks : Int32) (n_p0 n_this_generator : Nat) (f_p0 : Nat → Int32) (f_this_generator : Nat → Int32) {r : (Nat → Int32)} (h : im_X0_complete i_this_length i_this_checks n_p0 n_this_generator f_p0 f_this_generator = some r) : Met l yX0_complete wsX0_complete rm_X0_complete (va_Pc [.ref a_this, .ref a_p0] (fun U => U.heap.size = sz ∧ va_P (dC, dI) vwCl [(a_this, .inr (1, [.int i_this_length, .int i_this_checks, .ref a_this_generator, .ref a_this_powers, .ref a_this_syndromes, .ref a_this_locator, .ref a_this_former, .ref a_this_next, .ref a_this_evaluator, .ref a_this_slope])), (a_p0, .inl (cI, n_p0, .inl f_p0)), (a_this_generator, .inl (cI, n_this_generator, .inl f_this_generator))] U.heap ∧ va_K (dC, dI) vwCl [(cI, .int), (cJ, .long), (cZ, .boolean)] U ∧ va_D (fun _ => True) [(a_this, .inr (1, [.int i_this_length, .int i_this_checks, .ref a_this_generator, .ref a_this_powers, .ref a_this_syndromes, .ref a_this_locator, .ref a_this_former, .ref a_this_next, .ref a_this_evaluator, .ref a_this_slope])), (a_p0, .inl (cI, n_p0, .inl f_p0)), (a_this_generator, .inl (cI, n_this_generator, .inl f_this_generator))])) (va_Qv (S := (Nat → Int32)) (fun u9 => u9 = r) (fun u9 t9 => va_P (dC, dI) vwCl [(a_this, .inr (1, [.int i_this_length, .int i_this_checks, .ref a_this_generator, .ref a_this_powers, .ref a_this_syndromes, .ref a_this_locator, .ref a_this_former, .ref a_this_next, .ref a_this_evaluator, .ref a_this_slope])), (a_p0, .inl (cI, n_p0, .inl (u9))), (a_this_generator, .inl (cI, n_this_generator, .inl f_this_generator))] t9.heap ∧ va_K (dC, dI) vwCl [(cI, .int), (cJ, .long), (cZ, .boolean)] t9 ∧ va_D (va_A [(a_this, .inr (1, [.int i_this_length, .int i_this_checks, .ref a_this_generator, .ref a_this_powers, .ref a_this_syndromes, .ref a_this_locator, .ref a_this_former, .ref a_this_next, .ref a_this_evaluator, .ref a_this_slope])), (a_p0, .inl (cI, n_p0, .inl f_p0)), (a_this_generator, .inl (cI, n_this_generator, .inl f_this_generator))] sz) [(a_this, .inr (1, [.int i_this_length, .int i_this_checks, .ref a_this_generator, .ref a_this_powers, .ref a_this_syndromes, .ref a_this_locator, .ref a_this_former, .ref a_this_next, .ref a_this_evaluator, .ref a_this_slope])), (a_p0, .inl (cI, n_p0, .inl (u9))), (a_this_generator, .inl (cI, n_this_generator, .inl f_this_generator))]) (va_A [(a_this, .inr (1, [.int i_this_length, .int i_this_checks, .ref a_this_generator, .ref a_this_powers, .ref a_this_syndromes, .ref a_this_locator, .ref a_this_former, .ref a_this_next, .ref a_this_evaluator, .ref a_this_slope])), (a_p0, .inl (cI, n_p0, .inl f_p0)), (a_this_generator, .inl (cI, n_this_generator, .inl f_this_generator))] sz)) 0 0 (va_A [(a_this, .inr (1, [.int i_this_length, .int i_this_checks, .ref a_this_generator, .ref a_this_powers, .ref a_this_syndromes, .ref a_this_locator, .ref a_this_former, .ref a_this_next, .ref a_this_evaluator, .ref a_this_slope])), (a_p0, .inl (cI, n_p0, .inl f_p0)), (a_this_generator, .inl (cI, n_this_generator, .inl f_this_generator))] sz) := by
  refine Met.ofW (cc := cX0_complete) (maxL := 7) (ret := none) (by decide) rfl ?_
  intro p e s m args below meth c s₁ B hml hv
  obtain ⟨eargs, hsz, hP, hK, hD0⟩ := hv
  have hx := B.exec
  have hb := B.bytes
  have hr := B.returns
  have hts := atoms_spec (ws := wsX0_complete) B.pre
  have hown : s.vm.findClass RX0 = some m.cls := findClass_of_methodNamed B.named
  have hlocks := B.notSynchronized
  refine im_Q (fun Q eQ => ?_)
  subst hsz
  have hD := hD0.self (sz := s.heap.size)
  generalize hAe : va_A [(a_this, .inr (1, [.int i_this_length, .int i_this_checks, .ref a_this_generator, .ref a_this_powers, .ref a_this_syndromes, .ref a_this_locator, .ref a_this_former, .ref a_this_next, .ref a_this_evaluator, .ref a_this_slope])), (a_p0, .inl (cI, n_p0, .inl f_p0)), (a_this_generator, .inl (cI, n_this_generator, .inl f_this_generator))] s.heap.size = A at hD eQ
  have hA : ∀ q : Nat, s.heap.size ≤ q → A q := fun q h => by rw [← hAe]; exact Or.inr h
  have hS : va_S A s.heap s.heap [] := va_S.rf
  have hl := lv_entry [.ref a_this, .ref a_p0] (n := 7) (Nat.le_of_ble_eq_true rfl)
  rw [show entryFrame m args 7 = entryFrame m ([.ref a_this, .ref a_p0] : List Value).toArray 7 by rw [eargs], lg_entry_eq]
  generalize (lg_sl ([.ref a_this, .ref a_p0]) ++ List.replicate (7 - (lg_sl ([.ref a_this, .ref a_p0])).length) Slot.unset).toArray = ls at hl ⊢
  have hl : lv_has ls 7 [(0, .ref a_this), (1, .ref a_p0)] := hl
  rw [im_X0_complete] at h
  refine lv_aload_n hx hb dX0_complete_0 rfl (lv_at hl 0 rfl) ?_
  refine va_get (D := (dC, dI)) (ci := 1) (v := .int i_this_length) (C := RX0) (T := TX0) (N := 10) hx hb hts hn_X0_complete_X0 hown hK hP 0 rfl rfl 0 (by decide) (hts _ fl_X0_complete_9) (fun _ h9 => h9) rfl dX0_complete_1 ?_
  refine lv_aload_n hx hb dX0_complete_4 rfl (lv_at hl 0 rfl) ?_
  refine va_get (D := (dC, dI)) (ci := 1) (v := .int i_this_checks) (C := RX0) (T := TX0) (N := 10) hx hb hts hn_X0_complete_X0 hown hK hP 0 rfl rfl 1 (by decide) (hts _ fl_X0_complete_15) (fun _ h9 => h9) rfl dX0_complete_5 ?_
  refine lv_isub hx hb dX0_complete_8 ?_
  refine lv_topi (fun v1 ev1 => ?_)
  replace h := im_lt_u h v1 ev1
  refine lv_istore_n (lv' := [(2, .int v1), (0, .ref a_this), (1, .ref a_p0)]) hx hb dX0_complete_9 rfl hl (by decide) rfl (fun ls hl => ?_)
  refine lv_iload_n hx hb dX0_complete_10 rfl (lv_at hl 0 rfl) ?_
  refine lv_istore_n (lv' := [(3, .int v1), (2, .int v1), (0, .ref a_this), (1, .ref a_p0)]) hx hb dX0_complete_11 rfl hl (by decide) rfl (fun ls hl => ?_)
  refine im_j1_u (P := fun f2 => ∀ (H : Heap) (locs : List Loc) (ls : Array Slot), va_P (dC, dI) vwCl [(a_this, .inr (1, [.int i_this_length, .int i_this_checks, .ref a_this_generator, .ref a_this_powers, .ref a_this_syndromes, .ref a_this_locator, .ref a_this_former, .ref a_this_next, .ref a_this_evaluator, .ref a_this_slope])), (a_p0, .inl (cI, n_p0, .inl f2)), (a_this_generator, .inl (cI, n_this_generator, .inl f_this_generator))] H → va_D A [(a_this, .inr (1, [.int i_this_length, .int i_this_checks, .ref a_this_generator, .ref a_this_powers, .ref a_this_syndromes, .ref a_this_locator, .ref a_this_former, .ref a_this_next, .ref a_this_evaluator, .ref a_this_slope])), (a_p0, .inl (cI, n_p0, .inl f2)), (a_this_generator, .inl (cI, n_this_generator, .inl f_this_generator))] → va_S A s.heap H locs → lv_has ls 7 [(0, .ref a_this), (1, .ref a_p0), (2, .int v1)] → W p l e (headSpec wsX0_complete rm_X0_complete).room s m args below meth c H locs 0 0 Q (F0 m 30 ls [])) h (fun f2 h H locs ls hP hD hS hl => ?_) (fun K3 J3 h => ?_)
  · refine lv_iconst (v := (0 : Int32)) hx hb dX0_complete_30 (by decide) ?_
    refine lv_istore_n (lv' := [(3, .int (0 : Int32)), (0, .ref a_this), (1, .ref a_p0), (2, .int v1)]) hx hb dX0_complete_31 rfl hl (by decide) rfl (fun ls hl => ?_)
    have Lp6 : ∀ (n : Nat) (v4 : Int32) (f5 : Nat → Int32), im_X0_complete_L32 v1 n_p0 i_this_checks n_this_generator f_this_generator n v4 f5 = some r → ∀ (H : Heap) (locs : List Loc) (ls : Array Slot), va_P (dC, dI) vwCl [(a_this, .inr (1, [.int i_this_length, .int i_this_checks, .ref a_this_generator, .ref a_this_powers, .ref a_this_syndromes, .ref a_this_locator, .ref a_this_former, .ref a_this_next, .ref a_this_evaluator, .ref a_this_slope])), (a_p0, .inl (cI, n_p0, .inl f5)), (a_this_generator, .inl (cI, n_this_generator, .inl f_this_generator))] H → va_D A [(a_this, .inr (1, [.int i_this_length, .int i_this_checks, .ref a_this_generator, .ref a_this_powers, .ref a_this_syndromes, .ref a_this_locator, .ref a_this_former, .ref a_this_next, .ref a_this_evaluator, .ref a_this_slope])), (a_p0, .inl (cI, n_p0, .inl f5)), (a_this_generator, .inl (cI, n_this_generator, .inl f_this_generator))] → va_S A s.heap H locs → lv_has ls 7 [(0, .ref a_this), (1, .ref a_p0), (2, .int v1), (3, .int v4)] → W p l e (headSpec wsX0_complete rm_X0_complete).room s m args below meth c H locs 0 0 Q (F0 m 32 ls []) := by
      intro n
      induction n with
      | zero => intro v4 f5 h; rw [im_X0_complete_L32] at h; cases h
      | succ n ih =>
        intro v4 f5 h H locs ls hP hD hS hl
        rw [im_X0_complete_L32] at h
        refine lv_iload_n hx hb dX0_complete_32 rfl (lv_at hl 3 rfl) ?_
        refine lv_iload_n hx hb dX0_complete_33 rfl (lv_at hl 2 rfl) ?_
        refine lv_icmp_ge (tgt := 123) hx hb dX0_complete_34 (by decide) (fun c34 => ?_) (fun c34 => ?_)
        · replace h := im_t c34 h
          rw [eQ]
          exact W.vret hx hb hr (fun t ht hW => ⟨⟨f5, rfl, Option.some.inj h, by rw [ht]; exact hP, va_K.moved hW.alike hK, hD⟩, hS.F ht⟩) hS.2.2 dX0_complete_123
        · replace h := im_f c34 h
          refine lv_aload_n hx hb dX0_complete_37 rfl (lv_at hl 1 rfl) ?_
          refine lv_iload_n hx hb dX0_complete_38 rfl (lv_at hl 3 rfl) ?_
          obtain ⟨q39, h⟩ := im_ld_u h
          refine va_iald hx hb hK hP 1 0 rfl rfl q39 dX0_complete_39 ?_
          refine lv_topi (fun v7 ev7 => ?_)
          replace h := h v7 ev7
          refine lv_aload_n hx hb dX0_complete_40 rfl (lv_at hl 1 rfl) ?_
          refine lv_iload_n hx hb dX0_complete_41 rfl (lv_at hl 2 rfl) ?_
          obtain ⟨q42, h⟩ := im_ld_u h
          refine va_iald hx hb hK hP 1 0 rfl rfl q42 dX0_complete_42 ?_
          refine lv_topi (fun v8 ev8 => ?_)
          replace h := h v8 ev8
          refine lv_ixor hx hb dX0_complete_43 ?_
          refine lv_topi (fun v9 ev9 => ?_)
          replace h := im_lt_u h v9 ev9
          refine lv_istore (lv' := [(4, .int v9), (0, .ref a_this), (1, .ref a_p0), (2, .int v1), (3, .int v4)]) hx hb dX0_complete_44 hl (by decide) rfl (fun ls hl => ?_)
          refine lv_iconst (v := (0 : Int32)) hx hb dX0_complete_46 (by decide) ?_
          refine lv_istore (lv' := [(5, .int (0 : Int32)), (4, .int v9), (0, .ref a_this), (1, .ref a_p0), (2, .int v1), (3, .int v4)]) hx hb dX0_complete_47 hl (by decide) rfl (fun ls hl => ?_)
          refine im_j1_u (P := fun f10 => ∀ (H : Heap) (locs : List Loc) (ls : Array Slot), va_P (dC, dI) vwCl [(a_this, .inr (1, [.int i_this_length, .int i_this_checks, .ref a_this_generator, .ref a_this_powers, .ref a_this_syndromes, .ref a_this_locator, .ref a_this_former, .ref a_this_next, .ref a_this_evaluator, .ref a_this_slope])), (a_p0, .inl (cI, n_p0, .inl f10)), (a_this_generator, .inl (cI, n_this_generator, .inl f_this_generator))] H → va_D A [(a_this, .inr (1, [.int i_this_length, .int i_this_checks, .ref a_this_generator, .ref a_this_powers, .ref a_this_syndromes, .ref a_this_locator, .ref a_this_former, .ref a_this_next, .ref a_this_evaluator, .ref a_this_slope])), (a_p0, .inl (cI, n_p0, .inl f10)), (a_this_generator, .inl (cI, n_this_generator, .inl f_this_generator))] → va_S A s.heap H locs → lv_has ls 7 [(0, .ref a_this), (1, .ref a_p0), (2, .int v1), (3, .int v4)] → W p l e (headSpec wsX0_complete rm_X0_complete).room s m args below meth c H locs 0 0 Q (F0 m 117 ls [])) h (fun f10 h H locs ls hP hD hS hl => ?_) (fun K11 J11 h => ?_)
          · obtain ⟨v12, ev12⟩ : ∃ y : Int32, y = (v4 + (1 : Int32)) := ⟨_, rfl⟩
            replace h := im_lt_u h v12 ev12
            refine lv_iinc (v := v12) (lv' := [(3, .int v12), (0, .ref a_this), (1, .ref a_p0), (2, .int v1)]) hx hb dX0_complete_117 hl (k := 3) rfl (by rw [ev12]; rfl) (by decide) rfl (fun ls hl => ?_)
            refine lv_goto (tgt := 32) hx hb dX0_complete_120 (by decide) ?_
            exact ih v12 f10 h _ _ _ hP hD hS (lv_sub hl [1, 2, 3, 0] rfl)
          · have Lp15 : ∀ (n : Nat) (v13 : Int32) (f14 : Nat → Int32), im_X0_complete_L49 i_this_checks K11 v1 n_this_generator f_this_generator v9 n_p0 n v13 f14 = some r → ∀ (H : Heap) (locs : List Loc) (ls : Array Slot), va_P (dC, dI) vwCl [(a_this, .inr (1, [.int i_this_length, .int i_this_checks, .ref a_this_generator, .ref a_this_powers, .ref a_this_syndromes, .ref a_this_locator, .ref a_this_former, .ref a_this_next, .ref a_this_evaluator, .ref a_this_slope])), (a_p0, .inl (cI, n_p0, .inl f14)), (a_this_generator, .inl (cI, n_this_generator, .inl f_this_generator))] H → va_D A [(a_this, .inr (1, [.int i_this_length, .int i_this_checks, .ref a_this_generator, .ref a_this_powers, .ref a_this_syndromes, .ref a_this_locator, .ref a_this_former, .ref a_this_next, .ref a_this_evaluator, .ref a_this_slope])), (a_p0, .inl (cI, n_p0, .inl f14)), (a_this_generator, .inl (cI, n_this_generator, .inl f_this_generator))] → va_S A s.heap H locs → lv_has ls 7 [(0, .ref a_this), (1, .ref a_p0), (2, .int v1), (3, .int v4), (4, .int v9), (5, .int v13)] → W p l e (headSpec wsX0_complete rm_X0_complete).room s m args below meth c H locs 0 0 Q (F0 m 49 ls []) := by
              intro n
              induction n with
              | zero => intro v13 f14 h; rw [im_X0_complete_L49] at h; cases h
              | succ n ih =>
                intro v13 f14 h H locs ls hP hD hS hl
                rw [im_X0_complete_L49] at h
                refine lv_iload hx hb dX0_complete_49 (lv_at hl 5 rfl) ?_
                refine lv_aload_n hx hb dX0_complete_51 rfl (lv_at hl 0 rfl) ?_
                refine va_get (D := (dC, dI)) (ci := 1) (v := .int i_this_checks) (C := RX0) (T := TX0) (N := 10) hx hb hts hn_X0_complete_X0 hown hK hP 0 rfl rfl 1 (by decide) (hts _ fl_X0_complete_15) (fun _ h9 => h9) rfl dX0_complete_52 ?_
                refine lv_icmp_ge (tgt := 117) hx hb dX0_complete_55 (by decide) (fun c55 => ?_) (fun c55 => ?_)
                · replace h := im_t c55 h
                  exact J11 f14 h _ _ _ hP hD hS (lv_sub hl [0, 1, 2, 3] rfl)
                · replace h := im_f c55 h
                  refine im_j1_u (P := fun v16 => ∀ (H : Heap) (locs : List Loc) (ls : Array Slot), va_P (dC, dI) vwCl [(a_this, .inr (1, [.int i_this_length, .int i_this_checks, .ref a_this_generator, .ref a_this_powers, .ref a_this_syndromes, .ref a_this_locator, .ref a_this_former, .ref a_this_next, .ref a_this_evaluator, .ref a_this_slope])), (a_p0, .inl (cI, n_p0, .inl f14)), (a_this_generator, .inl (cI, n_this_generator, .inl f_this_generator))] H → va_D A [(a_this, .inr (1, [.int i_this_length, .int i_this_checks, .ref a_this_generator, .ref a_this_powers, .ref a_this_syndromes, .ref a_this_locator, .ref a_this_former, .ref a_this_next, .ref a_this_evaluator, .ref a_this_slope])), (a_p0, .inl (cI, n_p0, .inl f14)), (a_this_generator, .inl (cI, n_this_generator, .inl f_this_generator))] → va_S A s.heap H locs → lv_has ls 7 [(0, .ref a_this), (1, .ref a_p0), (2, .int v1), (3, .int v4), (4, .int v9), (5, .int v13)] → W p l e (headSpec wsX0_complete rm_X0_complete).room s m args below meth c H locs 0 0 Q (F0 m 81 ls [.int v16])) h (fun v16 h H locs ls hP hD hS hl => ?_) (fun K17 J17 h => ?_)
                  · refine lv_istore (lv' := [(6, .int v16), (0, .ref a_this), (1, .ref a_p0), (2, .int v1), (3, .int v4), (4, .int v9), (5, .int v13)]) hx hb dX0_complete_81 hl (by decide) rfl (fun ls hl => ?_)
                    refine lv_aload_n hx hb dX0_complete_83 rfl (lv_at hl 2 rfl) ?_
                    refine lv_iload_n hx hb dX0_complete_84 rfl (lv_at hl 3 rfl) ?_
                    refine lv_iload hx hb dX0_complete_85 (lv_at hl 6 rfl) ?_
                    refine lv_iadd hx hb dX0_complete_87 ?_
                    refine lv_topi (fun v18 ev18 => ?_)
                    replace h := im_lt_u h v18 ev18
                    refine lv_iload hx hb dX0_complete_88 (lv_at hl 0 rfl) ?_
                    refine lv_iload hx hb dX0_complete_90 (lv_at hl 5 rfl) ?_
                    refine lv_aload_n hx hb dX0_complete_92 rfl (lv_at hl 1 rfl) ?_
                    refine va_get (D := (dC, dI)) (ci := 1) (v := .ref a_this_generator) (C := RX0) (T := TX0) (N := 10) hx hb hts hn_X0_complete_X0 hown hK hP 0 rfl rfl 2 (by decide) (hts _ fl_X0_complete_18) (fun _ h9 => h9) rfl dX0_complete_93 ?_
                    refine lv_aload_n hx hb dX0_complete_96 rfl (lv_at hl 1 rfl) ?_
                    refine va_get (D := (dC, dI)) (ci := 1) (v := .int i_this_checks) (C := RX0) (T := TX0) (N := 10) hx hb hts hn_X0_complete_X0 hown hK hP 0 rfl rfl 1 (by decide) (hts _ fl_X0_complete_15) (fun _ h9 => h9) rfl dX0_complete_97 ?_
                    refine lv_iconst (v := (1 : Int32)) hx hb dX0_complete_100 (by decide) ?_
                    refine lv_isub hx hb dX0_complete_101 ?_
                    refine lv_topi (fun v19 ev19 => ?_)
                    replace h := im_lt_u h v19 ev19
                    refine lv_iload hx hb dX0_complete_102 (lv_at hl 6 rfl) ?_
                    refine lv_isub hx hb dX0_complete_104 ?_
                    refine lv_topi (fun v20 ev20 => ?_)
                    replace h := im_lt_u h v20 ev20
                    obtain ⟨q105, h⟩ := im_ld_u h
                    refine va_iald hx hb hK hP 2 0 rfl rfl q105 dX0_complete_105 ?_
                    refine lv_topi (fun v21 ev21 => ?_)
                    replace h := h v21 ev21
                    obtain ⟨v22, y106, h⟩ := im_b1_u h
                    refine vp_callSi (W.runS (As := [.int v9, .int v21]) (rest := [.int v16, .int v18, .ref a_p0]) ⟨hx, hb, hml, hown, hts⟩ (c_X1_product l v9 v21 y106) (va_cwS 2 hts gX0_complete_X1_product rfl rfl rfl (by decide +kernel) ⟨Nat.le_of_ble_eq_true rfl, Nat.le_of_ble_eq_true rfl⟩) ⟨fun _ _ _ _ q => q, fun U hU hW => ⟨rfl, trivial⟩⟩ rfl rfl hl.1 rfl (lv_room (Nat.le_of_ble_eq_true rfl)) dX0_complete_106 ⟨Nat.zero_le _, Nat.zero_le _⟩) (fun w106 ew106 => ?_)
                    have ew106 := ew106.symm
                    subst ew106
                    refine lv_ixor hx hb dX0_complete_109 ?_
                    refine lv_topi (fun v23 ev23 => ?_)
                    replace h := im_lt_u h v23 ev23
                    obtain ⟨q110, h⟩ := im_st_u h
                    refine va_iast hx hb hK hP hD hS 1 0 rfl rfl q110 dX0_complete_110 (fun H locs hP hD hS => ?_)
                    obtain ⟨f24, ef24⟩ : ∃ g : Nat → Int32, g = upd f14 v18.toNatClampNeg v23 := ⟨_, rfl⟩
                    replace h := h f24 ef24
                    rw [← ef24] at hP hD
                    have hP : va_P (dC, dI) vwCl [(a_this, .inr (1, [.int i_this_length, .int i_this_checks, .ref a_this_generator, .ref a_this_powers, .ref a_this_syndromes, .ref a_this_locator, .ref a_this_former, .ref a_this_next, .ref a_this_evaluator, .ref a_this_slope])), (a_p0, .inl (cI, n_p0, .inl f24)), (a_this_generator, .inl (cI, n_this_generator, .inl f_this_generator))] H := hP
                    have hD : va_D A [(a_this, .inr (1, [.int i_this_length, .int i_this_checks, .ref a_this_generator, .ref a_this_powers, .ref a_this_syndromes, .ref a_this_locator, .ref a_this_former, .ref a_this_next, .ref a_this_evaluator, .ref a_this_slope])), (a_p0, .inl (cI, n_p0, .inl f24)), (a_this_generator, .inl (cI, n_this_generator, .inl f_this_generator))] := hD
                    obtain ⟨v25, ev25⟩ : ∃ y : Int32, y = (v13 + (1 : Int32)) := ⟨_, rfl⟩
                    replace h := im_lt_u h v25 ev25
                    refine lv_iinc (v := v25) (lv' := [(5, .int v25), (6, .int v16), (0, .ref a_this), (1, .ref a_p0), (2, .int v1), (3, .int v4), (4, .int v9)]) hx hb dX0_complete_111 hl (k := 6) rfl (by rw [ev25]; rfl) (by decide) rfl (fun ls hl => ?_)
                    refine lv_goto (tgt := 49) hx hb dX0_complete_114 (by decide) ?_
                    exact ih v25 f24 h _ _ _ hP hD hS (lv_sub hl [2, 3, 4, 5, 6, 0] rfl)
                  · refine lv_iload hx hb dX0_complete_58 (lv_at hl 5 rfl) ?_
                    refine lv_iconst (v := (1 : Int32)) hx hb dX0_complete_60 (by decide) ?_
                    refine lv_iadd hx hb dX0_complete_61 ?_
                    refine lv_topi (fun v26 ev26 => ?_)
                    replace h := im_lt_u h v26 ev26
                    refine lv_aload_n hx hb dX0_complete_62 rfl (lv_at hl 0 rfl) ?_
                    refine va_get (D := (dC, dI)) (ci := 1) (v := .int i_this_checks) (C := RX0) (T := TX0) (N := 10) hx hb hts hn_X0_complete_X0 hown hK hP 0 rfl rfl 1 (by decide) (hts _ fl_X0_complete_15) (fun _ h9 => h9) rfl dX0_complete_63 ?_
                    refine lv_icmp_ge (tgt := 80) hx hb dX0_complete_66 (by decide) (fun c66 => ?_) (fun c66 => ?_)
                    · replace h := im_t c66 h
                      refine lv_iconst (v := (0 : Int32)) hx hb dX0_complete_80 (by decide) ?_
                      exact J17 (0 : Int32) h _ _ _ hP hD hS (lv_sub hl [0, 1, 2, 3, 4, 5] rfl)
                    · replace h := im_f c66 h
                      refine lv_aload_n hx hb dX0_complete_69 rfl (lv_at hl 1 rfl) ?_
                      refine lv_iload_n hx hb dX0_complete_70 rfl (lv_at hl 2 rfl) ?_
                      refine lv_iload hx hb dX0_complete_71 (lv_at hl 5 rfl) ?_
                      refine lv_iadd hx hb dX0_complete_73 ?_
                      refine lv_topi (fun v27 ev27 => ?_)
                      replace h := im_lt_u h v27 ev27
                      refine lv_iconst (v := (1 : Int32)) hx hb dX0_complete_74 (by decide) ?_
                      refine lv_iadd hx hb dX0_complete_75 ?_
                      refine lv_topi (fun v28 ev28 => ?_)
                      replace h := im_lt_u h v28 ev28
                      obtain ⟨q76, h⟩ := im_ld_u h
                      refine va_iald hx hb hK hP 1 0 rfl rfl q76 dX0_complete_76 ?_
                      refine lv_topi (fun v29 ev29 => ?_)
                      replace h := h v29 ev29
                      refine lv_goto (tgt := 81) hx hb dX0_complete_77 (by decide) ?_
                      exact J17 v29 h _ _ _ hP hD hS (lv_sub hl [0, 1, 2, 3, 4, 5] rfl)
            exact Lp15 5000 (0 : Int32) f5 h _ _ _ hP hD hS (lv_sub hl [2, 3, 4, 5, 1, 0] rfl)
    exact Lp6 5000 (0 : Int32) f2 h _ _ _ hP hD hS (lv_sub hl [1, 2, 3, 0] rfl)
  · have Lp32 : ∀ (n : Nat) (v30 : Int32) (f31 : Nat → Int32), im_X0_complete_L12 i_this_length K3 n_p0 n v30 f31 = some r → ∀ (H : Heap) (locs : List Loc) (ls : Array Slot), va_P (dC, dI) vwCl [(a_this, .inr (1, [.int i_this_length, .int i_this_checks, .ref a_this_generator, .ref a_this_powers, .ref a_this_syndromes, .ref a_this_locator, .ref a_this_former, .ref a_this_next, .ref a_this_evaluator, .ref a_this_slope])), (a_p0, .inl (cI, n_p0, .inl f31)), (a_this_generator, .inl (cI, n_this_generator, .inl f_this_generator))] H → va_D A [(a_this, .inr (1, [.int i_this_length, .int i_this_checks, .ref a_this_generator, .ref a_this_powers, .ref a_this_syndromes, .ref a_this_locator, .ref a_this_former, .ref a_this_next, .ref a_this_evaluator, .ref a_this_slope])), (a_p0, .inl (cI, n_p0, .inl f31)), (a_this_generator, .inl (cI, n_this_generator, .inl f_this_generator))] → va_S A s.heap H locs → lv_has ls 7 [(0, .ref a_this), (1, .ref a_p0), (2, .int v1), (3, .int v30)] → W p l e (headSpec wsX0_complete rm_X0_complete).room s m args below meth c H locs 0 0 Q (F0 m 12 ls []) := by
      intro n
      induction n with
      | zero => intro v30 f31 h; rw [im_X0_complete_L12] at h; cases h
      | succ n ih =>
        intro v30 f31 h H locs ls hP hD hS hl
        rw [im_X0_complete_L12] at h
        refine lv_iload_n hx hb dX0_complete_12 rfl (lv_at hl 3 rfl) ?_
        refine lv_aload_n hx hb dX0_complete_13 rfl (lv_at hl 0 rfl) ?_
        refine va_get (D := (dC, dI)) (ci := 1) (v := .int i_this_length) (C := RX0) (T := TX0) (N := 10) hx hb hts hn_X0_complete_X0 hown hK hP 0 rfl rfl 0 (by decide) (hts _ fl_X0_complete_9) (fun _ h9 => h9) rfl dX0_complete_14 ?_
        refine lv_icmp_ge (tgt := 30) hx hb dX0_complete_17 (by decide) (fun c17 => ?_) (fun c17 => ?_)
        · replace h := im_t c17 h
          exact J3 f31 h _ _ _ hP hD hS (lv_sub hl [0, 1, 2] rfl)
        · replace h := im_f c17 h
          refine lv_aload_n hx hb dX0_complete_20 rfl (lv_at hl 1 rfl) ?_
          refine lv_iload_n hx hb dX0_complete_21 rfl (lv_at hl 3 rfl) ?_
          refine lv_iconst (v := (0 : Int32)) hx hb dX0_complete_22 (by decide) ?_
          obtain ⟨q23, h⟩ := im_st_u h
          refine va_iast hx hb hK hP hD hS 1 0 rfl rfl q23 dX0_complete_23 (fun H locs hP hD hS => ?_)
          obtain ⟨f33, ef33⟩ : ∃ g : Nat → Int32, g = upd f31 v30.toNatClampNeg (0 : Int32) := ⟨_, rfl⟩
          replace h := h f33 ef33
          rw [← ef33] at hP hD
          have hP : va_P (dC, dI) vwCl [(a_this, .inr (1, [.int i_this_length, .int i_this_checks, .ref a_this_generator, .ref a_this_powers, .ref a_this_syndromes, .ref a_this_locator, .ref a_this_former, .ref a_this_next, .ref a_this_evaluator, .ref a_this_slope])), (a_p0, .inl (cI, n_p0, .inl f33)), (a_this_generator, .inl (cI, n_this_generator, .inl f_this_generator))] H := hP
          have hD : va_D A [(a_this, .inr (1, [.int i_this_length, .int i_this_checks, .ref a_this_generator, .ref a_this_powers, .ref a_this_syndromes, .ref a_this_locator, .ref a_this_former, .ref a_this_next, .ref a_this_evaluator, .ref a_this_slope])), (a_p0, .inl (cI, n_p0, .inl f33)), (a_this_generator, .inl (cI, n_this_generator, .inl f_this_generator))] := hD
          obtain ⟨v34, ev34⟩ : ∃ y : Int32, y = (v30 + (1 : Int32)) := ⟨_, rfl⟩
          replace h := im_lt_u h v34 ev34
          refine lv_iinc (v := v34) (lv' := [(3, .int v34), (0, .ref a_this), (1, .ref a_p0), (2, .int v1)]) hx hb dX0_complete_24 hl (k := 3) rfl (by rw [ev34]; rfl) (by decide) rfl (fun ls hl => ?_)
          refine lv_goto (tgt := 12) hx hb dX0_complete_27 (by decide) ?_
          exact ih v34 f33 h _ _ _ hP hD hS (lv_sub hl [1, 2, 3, 0] rfl)
    exact Lp32 5000 v1 f_p0 h _ _ _ hP hD hS (lv_sub hl [2, 3, 1, 0] rfl)
def im_X0_countLost_L4 (i_this_length : Int32) (n_p0 : Nat) (f_p0 : Nat → Int32) : Nat → Int32 → Int32 → Option (Int32)
  | 0, _, _ => none
  | n + 1, v1, v2 => if i_this_length ≤ v2 then (some v1) else im_j2 (fun (v4 : Int32) (v5 : Int32) => im_lt (v5 + v4) (fun v7 => im_lt (v2 + (1 : Int32)) (fun v8 => (im_X0_countLost_L4 i_this_length n_p0 f_p0 n v7 v8)))) (fun K6 => im_ld n_p0 f_p0 v2 (fun v9 => if v9 = 0 then (K6 (0 : Int32) v1) else (K6 (1 : Int32) v1)))
def im_X0_countLost (i_this_length : Int32) (n_p0 : Nat) (f_p0 : Nat → Int32) : Option (Int32) := (im_X0_countLost_L4 i_this_length n_p0 f_p0 5000 (0 : Int32) (0 : Int32))
abbrev rm_X0_countLost : Room := { frames := 0, cells := 0, slots := 0, locals := 0 }
theorem hn_X0_countLost_X0 : ∀ w ∈ wsX00, w ∈ wsX0_countLost := by decide +kernel
theorem fl_X0_countLost_9 : Cond.fieldLink RX0 9 "BarCodes$CheckCode" "length" "I" ∈ wsX0_countLost := by decide +kernel
set_option maxHeartbeats 4000000 in
set_option maxRecDepth 100000 in
theorem c_X0_countLost (l : Launch) (dC : Nat → ClassId) (dI : Nat → Nat → Nat) (cI cJ cZ : ClassId) (a_this a_this_generator a_this_powers a_this_syndromes a_this_locator a_this_former a_this_next a_this_evaluator a_this_slope a_p0 : Nat) (i_this_length i_this_checks : Int32) (n_p0 : Nat) (f_p0 : Nat → Int32) {r : Int32} (h : im_X0_countLost i_this_length n_p0 f_p0 = some r) : Met l yX0_countLost wsX0_countLost rm_X0_countLost (va_Pc [.ref a_this, .ref a_p0] (fun U => va_P (dC, dI) vwCl [(a_this, .inr (1, [.int i_this_length, .int i_this_checks, .ref a_this_generator, .ref a_this_powers, .ref a_this_syndromes, .ref a_this_locator, .ref a_this_former, .ref a_this_next, .ref a_this_evaluator, .ref a_this_slope])), (a_p0, .inl (cZ, n_p0, .inl f_p0))] U.heap ∧ va_K (dC, dI) vwCl [(cI, .int), (cJ, .long), (cZ, .boolean)] U)) (vp_Si (fun r9 => r9 = r)) 0 0 (fun _ => False) := by
  refine Met.ofW (cc := cX0_countLost) (maxL := 4) (ret := (some .int)) (by decide) rfl ?_
  intro p e s m args below meth c s₁ B hml hv
  obtain ⟨eargs, hP, hK⟩ := hv
  have hx := B.exec
  have hb := B.bytes
  have hr := B.returns
  have hts := atoms_spec (ws := wsX0_countLost) B.pre
  have hown : s.vm.findClass RX0 = some m.cls := findClass_of_methodNamed B.named
  have hlocks := B.notSynchronized
  refine im_Q (fun Q eQ => ?_)
  have hl := lv_entry [.ref a_this, .ref a_p0] (n := 4) (Nat.le_of_ble_eq_true rfl)
  rw [show entryFrame m args 4 = entryFrame m ([.ref a_this, .ref a_p0] : List Value).toArray 4 by rw [eargs], lg_entry_eq]
  generalize (lg_sl ([.ref a_this, .ref a_p0]) ++ List.replicate (4 - (lg_sl ([.ref a_this, .ref a_p0])).length) Slot.unset).toArray = ls at hl ⊢
  have hl : lv_has ls 4 [(0, .ref a_this), (1, .ref a_p0)] := hl
  rw [im_X0_countLost] at h
  refine lv_iconst (v := (0 : Int32)) hx hb dX0_countLost_0 (by decide) ?_
  refine lv_istore_n (lv' := [(2, .int (0 : Int32)), (0, .ref a_this), (1, .ref a_p0)]) hx hb dX0_countLost_1 rfl hl (by decide) rfl (fun ls hl => ?_)
  refine lv_iconst (v := (0 : Int32)) hx hb dX0_countLost_2 (by decide) ?_
  refine lv_istore_n (lv' := [(3, .int (0 : Int32)), (2, .int (0 : Int32)), (0, .ref a_this), (1, .ref a_p0)]) hx hb dX0_countLost_3 rfl hl (by decide) rfl (fun ls hl => ?_)
  have Lp3 : ∀ (n : Nat) (v1 : Int32) (v2 : Int32), im_X0_countLost_L4 i_this_length n_p0 f_p0 n v1 v2 = some r → ∀ (ls : Array Slot), lv_has ls 4 [(0, .ref a_this), (1, .ref a_p0), (2, .int v1), (3, .int v2)] → W p l e (headSpec wsX0_countLost rm_X0_countLost).room s m args below meth c s.heap [] 0 0 Q (F0 m 4 ls []) := by
    intro n
    induction n with
    | zero => intro v1 v2 h; rw [im_X0_countLost_L4] at h; cases h
    | succ n ih =>
      intro v1 v2 h ls hl
      rw [im_X0_countLost_L4] at h
      refine lv_iload_n hx hb dX0_countLost_4 rfl (lv_at hl 3 rfl) ?_
      refine lv_aload_n hx hb dX0_countLost_5 rfl (lv_at hl 0 rfl) ?_
      refine va_get (D := (dC, dI)) (ci := 1) (v := .int i_this_length) (C := RX0) (T := TX0) (N := 10) hx hb hts hn_X0_countLost_X0 hown hK hP 0 rfl rfl 0 (by decide) (hts _ fl_X0_countLost_9) (fun _ h9 => h9) rfl dX0_countLost_6 ?_
      refine lv_icmp_ge (tgt := 32) hx hb dX0_countLost_9 (by decide) (fun c9 => ?_) (fun c9 => ?_)
      · replace h := im_t c9 h
        refine lv_iload_n hx hb dX0_countLost_32 rfl (lv_at hl 2 rfl) ?_
        rw [eQ]
        exact W.iret (v := v1) hx hb hr (fun t ht hW => ⟨_, rfl, Option.some.inj h, ht⟩) (fun _ h9 => by cases h9) dX0_countLost_33
      · replace h := im_f c9 h
        refine im_j2_u (P := fun v4 v5 => ∀ (ls : Array Slot), lv_has ls 4 [(0, .ref a_this), (1, .ref a_p0), (3, .int v2)] → W p l e (headSpec wsX0_countLost rm_X0_countLost).room s m args below meth c s.heap [] 0 0 Q (F0 m 24 ls [.int v4, .int v5])) h (fun v4 v5 h ls hl => ?_) (fun K6 J6 h => ?_)
        · refine lv_iadd hx hb dX0_countLost_24 ?_
          refine lv_topi (fun v7 ev7 => ?_)
          replace h := im_lt_u h v7 ev7
          refine lv_istore_n (lv' := [(2, .int v7), (0, .ref a_this), (1, .ref a_p0), (3, .int v2)]) hx hb dX0_countLost_25 rfl hl (by decide) rfl (fun ls hl => ?_)
          obtain ⟨v8, ev8⟩ : ∃ y : Int32, y = (v2 + (1 : Int32)) := ⟨_, rfl⟩
          replace h := im_lt_u h v8 ev8
          refine lv_iinc (v := v8) (lv' := [(3, .int v8), (2, .int v7), (0, .ref a_this), (1, .ref a_p0)]) hx hb dX0_countLost_26 hl (k := 3) rfl (by rw [ev8]; rfl) (by decide) rfl (fun ls hl => ?_)
          refine lv_goto (tgt := 4) hx hb dX0_countLost_29 (by decide) ?_
          exact ih v7 v8 h _ (lv_sub hl [2, 3, 1, 0] rfl)
        · refine lv_iload_n hx hb dX0_countLost_12 rfl (lv_at hl 2 rfl) ?_
          refine lv_aload_n hx hb dX0_countLost_13 rfl (lv_at hl 1 rfl) ?_
          refine lv_iload_n hx hb dX0_countLost_14 rfl (lv_at hl 3 rfl) ?_
          obtain ⟨q15, h⟩ := im_ld_u h
          refine va_zald hx hb hK hP 1 2 rfl rfl q15 dX0_countLost_15 ?_
          refine lv_topi (fun v9 ev9 => ?_)
          replace h := h v9 ev9
          refine lv_if_eq (tgt := 23) hx hb dX0_countLost_16 (by decide) (fun c16 => ?_) (fun c16 => ?_)
          · replace h := im_t c16 h
            refine lv_iconst (v := (0 : Int32)) hx hb dX0_countLost_23 (by decide) ?_
            exact J6 (0 : Int32) v1 h _ (lv_sub hl [0, 1, 3] rfl)
          · replace h := im_f c16 h
            refine lv_iconst (v := (1 : Int32)) hx hb dX0_countLost_19 (by decide) ?_
            refine lv_goto (tgt := 24) hx hb dX0_countLost_20 (by decide) ?_
            exact J6 (1 : Int32) v1 h _ (lv_sub hl [0, 1, 3] rfl)
  exact Lp3 5000 (0 : Int32) (0 : Int32) h _ (lv_sub hl [2, 3, 1, 0] rfl)
def im_X0_fillSyndromes_L24 (i_this_length : Int32) (K7 : Int32 → Option ((Nat → Int32))) (v5 : Int32) (n_p0 : Nat) (f_p0 : Nat → Int32) : Nat → Int32 → Int32 → Option ((Nat → Int32))
  | 0, _, _ => none
  | n + 1, v10, v11 => if i_this_length ≤ v11 then (K7 v10) else im_b1 (im_X1_product v10 v5) (fun v13 => im_ld n_p0 f_p0 v11 (fun v14 => im_lt (v13 ^^^ v14) (fun v15 => im_lt (v11 + (1 : Int32)) (fun v16 => (im_X0_fillSyndromes_L24 i_this_length K7 v5 n_p0 f_p0 n v15 v16)))))
def im_X0_fillSyndromes_L4 (i_this_checks : Int32) (n_this_syndromes : Nat) (i_this_length : Int32) (n_p0 : Nat) (f_p0 : Nat → Int32) : Nat → Int32 → Int32 → (Nat → Int32) → Option ((Nat → Int32))
  | 0, _, _, _ => none
  | n + 1, v1, v2, f3 => if i_this_checks ≤ v2 then (some f3) else im_b1 (im_X1_product v1 (2 : Int32)) (fun v5 => im_j1 (fun (v6 : Int32) => im_st n_this_syndromes f3 v2 v6 (fun f8 => im_lt (v2 + (1 : Int32)) (fun v9 => (im_X0_fillSyndromes_L4 i_this_checks n_this_syndromes i_this_length n_p0 f_p0 n v5 v9 f8)))) (fun K7 => (im_X0_fillSyndromes_L24 i_this_length K7 v5 n_p0 f_p0 5000 (0 : Int32) (0 : Int32))))
def im_X0_fillSyndromes (i_this_length : Int32) (i_this_checks : Int32) (n_p0 : Nat) (n_this_syndromes : Nat) (f_p0 : Nat → Int32) (f_this_syndromes : Nat → Int32) : Option ((Nat → Int32)) := (im_X0_fillSyndromes_L4 i_this_checks n_this_syndromes i_this_length n_p0 f_p0 5000 (1 : Int32) (0 : Int32) f_this_syndromes)
abbrev rm_X0_fillSyndromes : Room := { frames := 1, cells := 0, slots := 0, locals := 24 }
theorem hn_X0_fillSyndromes_X0 : ∀ w ∈ wsX00, w ∈ wsX0_fillSyndromes := by decide +kernel
theorem fl_X0_fillSyndromes_15 : Cond.fieldLink RX0 15 "BarCodes$CheckCode" "checks" "I" ∈ wsX0_fillSyndromes := by decide +kernel
theorem fl_X0_fillSyndromes_25 : Cond.fieldLink RX0 25 "BarCodes$CheckCode" "syndromes" "[I" ∈ wsX0_fillSyndromes := by decide +kernel
theorem fl_X0_fillSyndromes_9 : Cond.fieldLink RX0 9 "BarCodes$CheckCode" "length" "I" ∈ wsX0_fillSyndromes := by decide +kernel
set_option maxHeartbeats 4000000 in
set_option maxRecDepth 100000 in
theorem c_X0_fillSyndromes (l : Launch) (dC : Nat → ClassId) (dI : Nat → Nat → Nat) (cI cJ cZ : ClassId) (sz : Nat) (a_this a_this_generator a_this_powers a_this_syndromes a_this_locator a_this_former a_this_next a_this_evaluator a_this_slope a_p0 : Nat) (i_this_length i_this_checks : Int32) (n_p0 n_this_syndromes : Nat) (f_p0 : Nat → Int32) (f_this_syndromes : Nat → Int32) {r : (Nat → Int32)} (h : im_X0_fillSyndromes i_this_length i_this_checks n_p0 n_this_syndromes f_p0 f_this_syndromes = some r) : Met l yX0_fillSyndromes wsX0_fillSyndromes rm_X0_fillSyndromes (va_Pc [.ref a_this, .ref a_p0] (fun U => U.heap.size = sz ∧ va_P (dC, dI) vwCl [(a_this, .inr (1, [.int i_this_length, .int i_this_checks, .ref a_this_generator, .ref a_this_powers, .ref a_this_syndromes, .ref a_this_locator, .ref a_this_former, .ref a_this_next, .ref a_this_evaluator, .ref a_this_slope])), (a_p0, .inl (cI, n_p0, .inl f_p0)), (a_this_syndromes, .inl (cI, n_this_syndromes, .inl f_this_syndromes))] U.heap ∧ va_K (dC, dI) vwCl [(cI, .int), (cJ, .long), (cZ, .boolean)] U ∧ va_D (fun _ => True) [(a_this, .inr (1, [.int i_this_length, .int i_this_checks, .ref a_this_generator, .ref a_this_powers, .ref a_this_syndromes, .ref a_this_locator, .ref a_this_former, .ref a_this_next, .ref a_this_evaluator, .ref a_this_slope])), (a_p0, .inl (cI, n_p0, .inl f_p0)), (a_this_syndromes, .inl (cI, n_this_syndromes, .inl f_this_syndromes))])) (va_Qv (S := (Nat → Int32)) (fun u9 => u9 = r) (fun u9 t9 => va_P (dC, dI) vwCl [(a_this, .inr (1, [.int i_this_length, .int i_this_checks, .ref a_this_generator, .ref a_this_powers, .ref a_this_syndromes, .ref a_this_locator, .ref a_this_former, .ref a_this_next, .ref a_this_evaluator, .ref a_this_slope])), (a_p0, .inl (cI, n_p0, .inl f_p0)), (a_this_syndromes, .inl (cI, n_this_syndromes, .inl (u9)))] t9.heap ∧ va_K (dC, dI) vwCl [(cI, .int), (cJ, .long), (cZ, .boolean)] t9 ∧ va_D (va_A [(a_this, .inr (1, [.int i_this_length, .int i_this_checks, .ref a_this_generator, .ref a_this_powers, .ref a_this_syndromes, .ref a_this_locator, .ref a_this_former, .ref a_this_next, .ref a_this_evaluator, .ref a_this_slope])), (a_p0, .inl (cI, n_p0, .inl f_p0)), (a_this_syndromes, .inl (cI, n_this_syndromes, .inl f_this_syndromes))] sz) [(a_this, .inr (1, [.int i_this_length, .int i_this_checks, .ref a_this_generator, .ref a_this_powers, .ref a_this_syndromes, .ref a_this_locator, .ref a_this_former, .ref a_this_next, .ref a_this_evaluator, .ref a_this_slope])), (a_p0, .inl (cI, n_p0, .inl f_p0)), (a_this_syndromes, .inl (cI, n_this_syndromes, .inl (u9)))]) (va_A [(a_this, .inr (1, [.int i_this_length, .int i_this_checks, .ref a_this_generator, .ref a_this_powers, .ref a_this_syndromes, .ref a_this_locator, .ref a_this_former, .ref a_this_next, .ref a_this_evaluator, .ref a_this_slope])), (a_p0, .inl (cI, n_p0, .inl f_p0)), (a_this_syndromes, .inl (cI, n_this_syndromes, .inl f_this_syndromes))] sz)) 0 0 (va_A [(a_this, .inr (1, [.int i_this_length, .int i_this_checks, .ref a_this_generator, .ref a_this_powers, .ref a_this_syndromes, .ref a_this_locator, .ref a_this_former, .ref a_this_next, .ref a_this_evaluator, .ref a_this_slope])), (a_p0, .inl (cI, n_p0, .inl f_p0)), (a_this_syndromes, .inl (cI, n_this_syndromes, .inl f_this_syndromes))] sz) := by
  refine Met.ofW (cc := cX0_fillSyndromes) (maxL := 6) (ret := none) (by decide) rfl ?_
  intro p e s m args below meth c s₁ B hml hv
  obtain ⟨eargs, hsz, hP, hK, hD0⟩ := hv
  have hx := B.exec
  have hb := B.bytes
  have hr := B.returns
  have hts := atoms_spec (ws := wsX0_fillSyndromes) B.pre
  have hown : s.vm.findClass RX0 = some m.cls := findClass_of_methodNamed B.named
  have hlocks := B.notSynchronized
  refine im_Q (fun Q eQ => ?_)
  subst hsz
  have hD := hD0.self (sz := s.heap.size)
  generalize hAe : va_A [(a_this, .inr (1, [.int i_this_length, .int i_this_checks, .ref a_this_generator, .ref a_this_powers, .ref a_this_syndromes, .ref a_this_locator, .ref a_this_former, .ref a_this_next, .ref a_this_evaluator, .ref a_this_slope])), (a_p0, .inl (cI, n_p0, .inl f_p0)), (a_this_syndromes, .inl (cI, n_this_syndromes, .inl f_this_syndromes))] s.heap.size = A at hD eQ
  have hA : ∀ q : Nat, s.heap.size ≤ q → A q := fun q h => by rw [← hAe]; exact Or.inr h
  have hS : va_S A s.heap s.heap [] := va_S.rf
  have hl := lv_entry [.ref a_this, .ref a_p0] (n := 6) (Nat.le_of_ble_eq_true rfl)
  rw [show entryFrame m args 6 = entryFrame m ([.ref a_this, .ref a_p0] : List Value).toArray 6 by rw [eargs], lg_entry_eq]
  generalize (lg_sl ([.ref a_this, .ref a_p0]) ++ List.replicate (6 - (lg_sl ([.ref a_this, .ref a_p0])).length) Slot.unset).toArray = ls at hl ⊢
  have hl : lv_has ls 6 [(0, .ref a_this), (1, .ref a_p0)] := hl
  rw [im_X0_fillSyndromes] at h
  refine lv_iconst (v := (1 : Int32)) hx hb dX0_fillSyndromes_0 (by decide) ?_
  refine lv_istore_n (lv' := [(2, .int (1 : Int32)), (0, .ref a_this), (1, .ref a_p0)]) hx hb dX0_fillSyndromes_1 rfl hl (by decide) rfl (fun ls hl => ?_)
  refine lv_iconst (v := (0 : Int32)) hx hb dX0_fillSyndromes_2 (by decide) ?_
  refine lv_istore_n (lv' := [(3, .int (0 : Int32)), (2, .int (1 : Int32)), (0, .ref a_this), (1, .ref a_p0)]) hx hb dX0_fillSyndromes_3 rfl hl (by decide) rfl (fun ls hl => ?_)
  have Lp4 : ∀ (n : Nat) (v1 : Int32) (v2 : Int32) (f3 : Nat → Int32), im_X0_fillSyndromes_L4 i_this_checks n_this_syndromes i_this_length n_p0 f_p0 n v1 v2 f3 = some r → ∀ (H : Heap) (locs : List Loc) (ls : Array Slot), va_P (dC, dI) vwCl [(a_this, .inr (1, [.int i_this_length, .int i_this_checks, .ref a_this_generator, .ref a_this_powers, .ref a_this_syndromes, .ref a_this_locator, .ref a_this_former, .ref a_this_next, .ref a_this_evaluator, .ref a_this_slope])), (a_p0, .inl (cI, n_p0, .inl f_p0)), (a_this_syndromes, .inl (cI, n_this_syndromes, .inl f3))] H → va_D A [(a_this, .inr (1, [.int i_this_length, .int i_this_checks, .ref a_this_generator, .ref a_this_powers, .ref a_this_syndromes, .ref a_this_locator, .ref a_this_former, .ref a_this_next, .ref a_this_evaluator, .ref a_this_slope])), (a_p0, .inl (cI, n_p0, .inl f_p0)), (a_this_syndromes, .inl (cI, n_this_syndromes, .inl f3))] → va_S A s.heap H locs → lv_has ls 6 [(0, .ref a_this), (1, .ref a_p0), (2, .int v1), (3, .int v2)] → W p l e (headSpec wsX0_fillSyndromes rm_X0_fillSyndromes).room s m args below meth c H locs 0 0 Q (F0 m 4 ls []) := by
    intro n
    induction n with
    | zero => intro v1 v2 f3 h; rw [im_X0_fillSyndromes_L4] at h; cases h
    | succ n ih =>
      intro v1 v2 f3 h H locs ls hP hD hS hl
      rw [im_X0_fillSyndromes_L4] at h
      refine lv_iload_n hx hb dX0_fillSyndromes_4 rfl (lv_at hl 3 rfl) ?_
      refine lv_aload_n hx hb dX0_fillSyndromes_5 rfl (lv_at hl 0 rfl) ?_
      refine va_get (D := (dC, dI)) (ci := 1) (v := .int i_this_checks) (C := RX0) (T := TX0) (N := 10) hx hb hts hn_X0_fillSyndromes_X0 hown hK hP 0 rfl rfl 1 (by decide) (hts _ fl_X0_fillSyndromes_15) (fun _ h9 => h9) rfl dX0_fillSyndromes_6 ?_
      refine lv_icmp_ge (tgt := 66) hx hb dX0_fillSyndromes_9 (by decide) (fun c9 => ?_) (fun c9 => ?_)
      · replace h := im_t c9 h
        rw [eQ]
        exact W.vret hx hb hr (fun t ht hW => ⟨⟨f3, rfl, Option.some.inj h, by rw [ht]; exact hP, va_K.moved hW.alike hK, hD⟩, hS.F ht⟩) hS.2.2 dX0_fillSyndromes_66
      · replace h := im_f c9 h
        refine lv_iload_n hx hb dX0_fillSyndromes_12 rfl (lv_at hl 2 rfl) ?_
        refine lv_iconst (v := (2 : Int32)) hx hb dX0_fillSyndromes_13 (by decide) ?_
        obtain ⟨v5, y14, h⟩ := im_b1_u h
        refine vp_callSi (W.runS (As := [.int v1, .int (2 : Int32)]) (rest := []) ⟨hx, hb, hml, hown, hts⟩ (c_X1_product l v1 (2 : Int32) y14) (va_cwS 2 hts gX0_fillSyndromes_X1_product rfl rfl rfl (by decide +kernel) ⟨Nat.le_of_ble_eq_true rfl, Nat.le_of_ble_eq_true rfl⟩) ⟨fun _ _ _ _ q => q, fun U hU hW => ⟨rfl, trivial⟩⟩ rfl rfl hl.1 rfl (lv_room (Nat.le_of_ble_eq_true rfl)) dX0_fillSyndromes_14 ⟨Nat.zero_le _, Nat.zero_le _⟩) (fun w14 ew14 => ?_)
        have ew14 := ew14.symm
        subst ew14
        refine lv_istore_n (lv' := [(2, .int v5), (0, .ref a_this), (1, .ref a_p0), (3, .int v2)]) hx hb dX0_fillSyndromes_17 rfl hl (by decide) rfl (fun ls hl => ?_)
        refine lv_iconst (v := (0 : Int32)) hx hb dX0_fillSyndromes_18 (by decide) ?_
        refine lv_istore (lv' := [(4, .int (0 : Int32)), (2, .int v5), (0, .ref a_this), (1, .ref a_p0), (3, .int v2)]) hx hb dX0_fillSyndromes_19 hl (by decide) rfl (fun ls hl => ?_)
        refine lv_iconst (v := (0 : Int32)) hx hb dX0_fillSyndromes_21 (by decide) ?_
        refine lv_istore (lv' := [(5, .int (0 : Int32)), (4, .int (0 : Int32)), (2, .int v5), (0, .ref a_this), (1, .ref a_p0), (3, .int v2)]) hx hb dX0_fillSyndromes_22 hl (by decide) rfl (fun ls hl => ?_)
        refine im_j1_u (P := fun v6 => ∀ (H : Heap) (locs : List Loc) (ls : Array Slot), va_P (dC, dI) vwCl [(a_this, .inr (1, [.int i_this_length, .int i_this_checks, .ref a_this_generator, .ref a_this_powers, .ref a_this_syndromes, .ref a_this_locator, .ref a_this_former, .ref a_this_next, .ref a_this_evaluator, .ref a_this_slope])), (a_p0, .inl (cI, n_p0, .inl f_p0)), (a_this_syndromes, .inl (cI, n_this_syndromes, .inl f3))] H → va_D A [(a_this, .inr (1, [.int i_this_length, .int i_this_checks, .ref a_this_generator, .ref a_this_powers, .ref a_this_syndromes, .ref a_this_locator, .ref a_this_former, .ref a_this_next, .ref a_this_evaluator, .ref a_this_slope])), (a_p0, .inl (cI, n_p0, .inl f_p0)), (a_this_syndromes, .inl (cI, n_this_syndromes, .inl f3))] → va_S A s.heap H locs → lv_has ls 6 [(0, .ref a_this), (1, .ref a_p0), (2, .int v5), (3, .int v2), (4, .int v6)] → W p l e (headSpec wsX0_fillSyndromes rm_X0_fillSyndromes).room s m args below meth c H locs 0 0 Q (F0 m 52 ls [])) h (fun v6 h H locs ls hP hD hS hl => ?_) (fun K7 J7 h => ?_)
        · refine lv_aload_n hx hb dX0_fillSyndromes_52 rfl (lv_at hl 0 rfl) ?_
          refine va_get (D := (dC, dI)) (ci := 1) (v := .ref a_this_syndromes) (C := RX0) (T := TX0) (N := 10) hx hb hts hn_X0_fillSyndromes_X0 hown hK hP 0 rfl rfl 4 (by decide) (hts _ fl_X0_fillSyndromes_25) (fun _ h9 => h9) rfl dX0_fillSyndromes_53 ?_
          refine lv_iload_n hx hb dX0_fillSyndromes_56 rfl (lv_at hl 3 rfl) ?_
          refine lv_iload hx hb dX0_fillSyndromes_57 (lv_at hl 4 rfl) ?_
          obtain ⟨q59, h⟩ := im_st_u h
          refine va_iast hx hb hK hP hD hS 2 0 rfl rfl q59 dX0_fillSyndromes_59 (fun H locs hP hD hS => ?_)
          obtain ⟨f8, ef8⟩ : ∃ g : Nat → Int32, g = upd f3 v2.toNatClampNeg v6 := ⟨_, rfl⟩
          replace h := h f8 ef8
          rw [← ef8] at hP hD
          have hP : va_P (dC, dI) vwCl [(a_this, .inr (1, [.int i_this_length, .int i_this_checks, .ref a_this_generator, .ref a_this_powers, .ref a_this_syndromes, .ref a_this_locator, .ref a_this_former, .ref a_this_next, .ref a_this_evaluator, .ref a_this_slope])), (a_p0, .inl (cI, n_p0, .inl f_p0)), (a_this_syndromes, .inl (cI, n_this_syndromes, .inl f8))] H := hP
          have hD : va_D A [(a_this, .inr (1, [.int i_this_length, .int i_this_checks, .ref a_this_generator, .ref a_this_powers, .ref a_this_syndromes, .ref a_this_locator, .ref a_this_former, .ref a_this_next, .ref a_this_evaluator, .ref a_this_slope])), (a_p0, .inl (cI, n_p0, .inl f_p0)), (a_this_syndromes, .inl (cI, n_this_syndromes, .inl f8))] := hD
          obtain ⟨v9, ev9⟩ : ∃ y : Int32, y = (v2 + (1 : Int32)) := ⟨_, rfl⟩
          replace h := im_lt_u h v9 ev9
          refine lv_iinc (v := v9) (lv' := [(3, .int v9), (0, .ref a_this), (1, .ref a_p0), (2, .int v5), (4, .int v6)]) hx hb dX0_fillSyndromes_60 hl (k := 3) rfl (by rw [ev9]; rfl) (by decide) rfl (fun ls hl => ?_)
          refine lv_goto (tgt := 4) hx hb dX0_fillSyndromes_63 (by decide) ?_
          exact ih v5 v9 f8 h _ _ _ hP hD hS (lv_sub hl [1, 2, 3, 0] rfl)
        · have Lp12 : ∀ (n : Nat) (v10 : Int32) (v11 : Int32), im_X0_fillSyndromes_L24 i_this_length K7 v5 n_p0 f_p0 n v10 v11 = some r → ∀ (H : Heap) (locs : List Loc) (ls : Array Slot), va_P (dC, dI) vwCl [(a_this, .inr (1, [.int i_this_length, .int i_this_checks, .ref a_this_generator, .ref a_this_powers, .ref a_this_syndromes, .ref a_this_locator, .ref a_this_former, .ref a_this_next, .ref a_this_evaluator, .ref a_this_slope])), (a_p0, .inl (cI, n_p0, .inl f_p0)), (a_this_syndromes, .inl (cI, n_this_syndromes, .inl f3))] H → va_D A [(a_this, .inr (1, [.int i_this_length, .int i_this_checks, .ref a_this_generator, .ref a_this_powers, .ref a_this_syndromes, .ref a_this_locator, .ref a_this_former, .ref a_this_next, .ref a_this_evaluator, .ref a_this_slope])), (a_p0, .inl (cI, n_p0, .inl f_p0)), (a_this_syndromes, .inl (cI, n_this_syndromes, .inl f3))] → va_S A s.heap H locs → lv_has ls 6 [(0, .ref a_this), (1, .ref a_p0), (2, .int v5), (3, .int v2), (4, .int v10), (5, .int v11)] → W p l e (headSpec wsX0_fillSyndromes rm_X0_fillSyndromes).room s m args below meth c H locs 0 0 Q (F0 m 24 ls []) := by
            intro n
            induction n with
            | zero => intro v10 v11 h; rw [im_X0_fillSyndromes_L24] at h; cases h
            | succ n ih =>
              intro v10 v11 h H locs ls hP hD hS hl
              rw [im_X0_fillSyndromes_L24] at h
              refine lv_iload hx hb dX0_fillSyndromes_24 (lv_at hl 5 rfl) ?_
              refine lv_aload_n hx hb dX0_fillSyndromes_26 rfl (lv_at hl 0 rfl) ?_
              refine va_get (D := (dC, dI)) (ci := 1) (v := .int i_this_length) (C := RX0) (T := TX0) (N := 10) hx hb hts hn_X0_fillSyndromes_X0 hown hK hP 0 rfl rfl 0 (by decide) (hts _ fl_X0_fillSyndromes_9) (fun _ h9 => h9) rfl dX0_fillSyndromes_27 ?_
              refine lv_icmp_ge (tgt := 52) hx hb dX0_fillSyndromes_30 (by decide) (fun c30 => ?_) (fun c30 => ?_)
              · replace h := im_t c30 h
                exact J7 v10 h _ _ _ hP hD hS (lv_sub hl [0, 1, 2, 3, 4] rfl)
              · replace h := im_f c30 h
                refine lv_iload hx hb dX0_fillSyndromes_33 (lv_at hl 4 rfl) ?_
                refine lv_iload_n hx hb dX0_fillSyndromes_35 rfl (lv_at hl 2 rfl) ?_
                obtain ⟨v13, y36, h⟩ := im_b1_u h
                refine vp_callSi (W.runS (As := [.int v10, .int v5]) (rest := []) ⟨hx, hb, hml, hown, hts⟩ (c_X1_product l v10 v5 y36) (va_cwS 2 hts gX0_fillSyndromes_X1_product rfl rfl rfl (by decide +kernel) ⟨Nat.le_of_ble_eq_true rfl, Nat.le_of_ble_eq_true rfl⟩) ⟨fun _ _ _ _ q => q, fun U hU hW => ⟨rfl, trivial⟩⟩ rfl rfl hl.1 rfl (lv_room (Nat.le_of_ble_eq_true rfl)) dX0_fillSyndromes_36 ⟨Nat.zero_le _, Nat.zero_le _⟩) (fun w36 ew36 => ?_)
                have ew36 := ew36.symm
                subst ew36
                refine lv_aload_n hx hb dX0_fillSyndromes_39 rfl (lv_at hl 1 rfl) ?_
                refine lv_iload hx hb dX0_fillSyndromes_40 (lv_at hl 5 rfl) ?_
                obtain ⟨q42, h⟩ := im_ld_u h
                refine va_iald hx hb hK hP 1 0 rfl rfl q42 dX0_fillSyndromes_42 ?_
                refine lv_topi (fun v14 ev14 => ?_)
                replace h := h v14 ev14
                refine lv_ixor hx hb dX0_fillSyndromes_43 ?_
                refine lv_topi (fun v15 ev15 => ?_)
                replace h := im_lt_u h v15 ev15
                refine lv_istore (lv' := [(4, .int v15), (0, .ref a_this), (1, .ref a_p0), (2, .int v5), (3, .int v2), (5, .int v11)]) hx hb dX0_fillSyndromes_44 hl (by decide) rfl (fun ls hl => ?_)
                obtain ⟨v16, ev16⟩ : ∃ y : Int32, y = (v11 + (1 : Int32)) := ⟨_, rfl⟩
                replace h := im_lt_u h v16 ev16
                refine lv_iinc (v := v16) (lv' := [(5, .int v16), (4, .int v15), (0, .ref a_this), (1, .ref a_p0), (2, .int v5), (3, .int v2)]) hx hb dX0_fillSyndromes_46 hl (k := 5) rfl (by rw [ev16]; rfl) (by decide) rfl (fun ls hl => ?_)
                refine lv_goto (tgt := 24) hx hb dX0_fillSyndromes_49 (by decide) ?_
                exact ih v15 v16 h _ _ _ hP hD hS (lv_sub hl [2, 3, 4, 5, 1, 0] rfl)
          exact Lp12 5000 (0 : Int32) (0 : Int32) h _ _ _ hP hD hS (lv_sub hl [3, 4, 2, 5, 1, 0] rfl)
  exact Lp4 5000 (1 : Int32) (0 : Int32) f_this_syndromes h _ _ _ hP hD hS (lv_sub hl [2, 3, 1, 0] rfl)
def im_X0_allZero_L2 (n_p0 : Nat) (f_p0 : Nat → Int32) : Nat → Int32 → Option (Int32)
  | 0, _ => none
  | n + 1, v1 => if (nI n_p0) ≤ v1 then (some (1 : Int32)) else im_ld n_p0 f_p0 v1 (fun v3 => if v3 = 0 then im_lt (v1 + (1 : Int32)) (fun v4 => (im_X0_allZero_L2 n_p0 f_p0 n v4)) else (some (0 : Int32)))
def im_X0_allZero (n_p0 : Nat) (f_p0 : Nat → Int32) : Option (Int32) := (im_X0_allZero_L2 n_p0 f_p0 5000 (0 : Int32))
abbrev rm_X0_allZero : Room := { frames := 0, cells := 0, slots := 0, locals := 0 }
set_option maxHeartbeats 4000000 in
set_option maxRecDepth 100000 in
theorem c_X0_allZero (l : Launch) (dC : Nat → ClassId) (dI : Nat → Nat → Nat) (cI cJ cZ : ClassId) (a_p0 : Nat) (n_p0 : Nat) (f_p0 : Nat → Int32) {r : Int32} (h : im_X0_allZero n_p0 f_p0 = some r) : Met l yX0_allZero wsX0_allZero rm_X0_allZero (va_Pc [.ref a_p0] (fun U => va_P (dC, dI) vwCl [(a_p0, .inl (cI, n_p0, .inl f_p0))] U.heap ∧ va_K (dC, dI) vwCl [(cI, .int), (cJ, .long), (cZ, .boolean)] U)) (vp_Si (fun r9 => r9 = r)) 0 0 (fun _ => False) := by
  refine Met.ofW (cc := cX0_allZero) (maxL := 2) (ret := (some .boolean)) (by decide) rfl ?_
  intro p e s m args below meth c s₁ B hml hv
  obtain ⟨eargs, hP, hK⟩ := hv
  have hx := B.exec
  have hb := B.bytes
  have hr := B.returns
  have hts := atoms_spec (ws := wsX0_allZero) B.pre
  have hown : s.vm.findClass RX0 = some m.cls := findClass_of_methodNamed B.named
  have hlocks := B.notSynchronized
  refine im_Q (fun Q eQ => ?_)
  have hl := lv_entry [.ref a_p0] (n := 2) (Nat.le_of_ble_eq_true rfl)
  rw [show entryFrame m args 2 = entryFrame m ([.ref a_p0] : List Value).toArray 2 by rw [eargs], lg_entry_eq]
  generalize (lg_sl ([.ref a_p0]) ++ List.replicate (2 - (lg_sl ([.ref a_p0])).length) Slot.unset).toArray = ls at hl ⊢
  have hl : lv_has ls 2 [(0, .ref a_p0)] := hl
  rw [im_X0_allZero] at h
  refine lv_iconst (v := (0 : Int32)) hx hb dX0_allZero_0 (by decide) ?_
  refine lv_istore_n (lv' := [(1, .int (0 : Int32)), (0, .ref a_p0)]) hx hb dX0_allZero_1 rfl hl (by decide) rfl (fun ls hl => ?_)
  have Lp2 : ∀ (n : Nat) (v1 : Int32), im_X0_allZero_L2 n_p0 f_p0 n v1 = some r → ∀ (ls : Array Slot), lv_has ls 2 [(0, .ref a_p0), (1, .int v1)] → W p l e (headSpec wsX0_allZero rm_X0_allZero).room s m args below meth c s.heap [] 0 0 Q (F0 m 2 ls []) := by
    intro n
    induction n with
    | zero => intro v1 h; rw [im_X0_allZero_L2] at h; cases h
    | succ n ih =>
      intro v1 h ls hl
      rw [im_X0_allZero_L2] at h
      refine lv_iload_n hx hb dX0_allZero_2 rfl (lv_at hl 1 rfl) ?_
      refine lv_aload_n hx hb dX0_allZero_3 rfl (lv_at hl 0 rfl) ?_
      refine va_alen hx hb hK hP 0 0 rfl rfl (v := nI n_p0) rfl dX0_allZero_4 ?_
      refine lv_icmp_ge (tgt := 22) hx hb dX0_allZero_5 (by decide) (fun c5 => ?_) (fun c5 => ?_)
      · replace h := im_t c5 h
        refine lv_iconst (v := (1 : Int32)) hx hb dX0_allZero_22 (by decide) ?_
        rw [eQ]
        exact W.zret (ty := .boolean) (v := (1 : Int32)) hx hb hr rfl (fun t ht hW => ⟨_, rfl, Option.some.inj h, ht⟩) (fun _ h9 => by cases h9) dX0_allZero_23
      · replace h := im_f c5 h
        refine lv_aload_n hx hb dX0_allZero_8 rfl (lv_at hl 0 rfl) ?_
        refine lv_iload_n hx hb dX0_allZero_9 rfl (lv_at hl 1 rfl) ?_
        obtain ⟨q10, h⟩ := im_ld_u h
        refine va_iald hx hb hK hP 0 0 rfl rfl q10 dX0_allZero_10 ?_
        refine lv_topi (fun v3 ev3 => ?_)
        replace h := h v3 ev3
        refine lv_if_eq (tgt := 16) hx hb dX0_allZero_11 (by decide) (fun c11 => ?_) (fun c11 => ?_)
        · replace h := im_t c11 h
          obtain ⟨v4, ev4⟩ : ∃ y : Int32, y = (v1 + (1 : Int32)) := ⟨_, rfl⟩
          replace h := im_lt_u h v4 ev4
          refine lv_iinc (v := v4) (lv' := [(1, .int v4), (0, .ref a_p0)]) hx hb dX0_allZero_16 hl (k := 1) rfl (by rw [ev4]; rfl) (by decide) rfl (fun ls hl => ?_)
          refine lv_goto (tgt := 2) hx hb dX0_allZero_19 (by decide) ?_
          exact ih v4 h _ (lv_sub hl [1, 0] rfl)
        · replace h := im_f c11 h
          refine lv_iconst (v := (0 : Int32)) hx hb dX0_allZero_14 (by decide) ?_
          rw [eQ]
          exact W.zret (ty := .boolean) (v := (0 : Int32)) hx hb hr rfl (fun t ht hW => ⟨_, rfl, Option.some.inj h, ht⟩) (fun _ h9 => by cases h9) dX0_allZero_15
  exact Lp2 5000 (0 : Int32) h _ (lv_sub hl [1, 0] rfl)
def im_J7_fill_53178_L5 (n_p0 : Nat) (x1 : Int32) : Nat → Int32 → (Nat → Int32) → Option ((Nat → Int32))
  | 0, _, _ => none
  | n + 1, v1, f2 => if (nI n_p0) ≤ v1 then (some f2) else im_st n_p0 f2 v1 x1 (fun f4 => im_lt (v1 + (1 : Int32)) (fun v5 => (im_J7_fill_53178_L5 n_p0 x1 n v5 f4)))
def im_J7_fill_53178 (x1 : Int32) (n_p0 : Nat) (f_p0 : Nat → Int32) : Option ((Nat → Int32)) := (im_J7_fill_53178_L5 n_p0 x1 5000 (0 : Int32) f_p0)
abbrev rm_J7_fill_53178 : Room := { frames := 0, cells := 0, slots := 0, locals := 0 }
set_option maxHeartbeats 4000000 in
set_option maxRecDepth 100000 in
theorem c_J7_fill_53178 (l : Launch) (dC : Nat → ClassId) (dI : Nat → Nat → Nat) (cI cJ cZ : ClassId) (sz : Nat) (a_p0 : Nat) (n_p0 : Nat) (f_p0 : Nat → Int32) (x1 : Int32) {r : (Nat → Int32)} (h : im_J7_fill_53178 x1 n_p0 f_p0 = some r) : Met l yJ7_fill_53178 wsJ7_fill_53178 rm_J7_fill_53178 (va_Pc [.ref a_p0, .int x1] (fun U => U.heap.size = sz ∧ va_P (dC, dI) vwCl [(a_p0, .inl (cI, n_p0, .inl f_p0))] U.heap ∧ va_K (dC, dI) vwCl [(cI, .int), (cJ, .long), (cZ, .boolean)] U ∧ va_D (fun _ => True) [(a_p0, .inl (cI, n_p0, .inl f_p0))])) (va_Qv (S := (Nat → Int32)) (fun u9 => u9 = r) (fun u9 t9 => va_P (dC, dI) vwCl [(a_p0, .inl (cI, n_p0, .inl (u9)))] t9.heap ∧ va_K (dC, dI) vwCl [(cI, .int), (cJ, .long), (cZ, .boolean)] t9 ∧ va_D (va_A [(a_p0, .inl (cI, n_p0, .inl f_p0))] sz) [(a_p0, .inl (cI, n_p0, .inl (u9)))]) (va_A [(a_p0, .inl (cI, n_p0, .inl f_p0))] sz)) 0 0 (va_A [(a_p0, .inl (cI, n_p0, .inl f_p0))] sz) := by
  refine Met.ofW (cc := cJ7_fill_53178) (maxL := 4) (ret := none) (by decide) rfl ?_
  intro p e s m args below meth c s₁ B hml hv
  obtain ⟨eargs, hsz, hP, hK, hD0⟩ := hv
  have hx := B.exec
  have hb := B.bytes
  have hr := B.returns
  have hts := atoms_spec (ws := wsJ7_fill_53178) B.pre
  have hown : s.vm.findClass RJ7 = some m.cls := findClass_of_methodNamed B.named
  have hlocks := B.notSynchronized
  refine im_Q (fun Q eQ => ?_)
  subst hsz
  have hD := hD0.self (sz := s.heap.size)
  generalize hAe : va_A [(a_p0, .inl (cI, n_p0, .inl f_p0))] s.heap.size = A at hD eQ
  have hA : ∀ q : Nat, s.heap.size ≤ q → A q := fun q h => by rw [← hAe]; exact Or.inr h
  have hS : va_S A s.heap s.heap [] := va_S.rf
  have hl := lv_entry [.ref a_p0, .int x1] (n := 4) (Nat.le_of_ble_eq_true rfl)
  rw [show entryFrame m args 4 = entryFrame m ([.ref a_p0, .int x1] : List Value).toArray 4 by rw [eargs], lg_entry_eq]
  generalize (lg_sl ([.ref a_p0, .int x1]) ++ List.replicate (4 - (lg_sl ([.ref a_p0, .int x1])).length) Slot.unset).toArray = ls at hl ⊢
  have hl : lv_has ls 4 [(0, .ref a_p0), (1, .int x1)] := hl
  rw [im_J7_fill_53178] at h
  refine lv_iconst (v := (0 : Int32)) hx hb dJ7_fill_53178_0 (by decide) ?_
  refine lv_istore_n (lv' := [(2, .int (0 : Int32)), (0, .ref a_p0), (1, .int x1)]) hx hb dJ7_fill_53178_1 rfl hl (by decide) rfl (fun ls hl => ?_)
  refine lv_aload_n hx hb dJ7_fill_53178_2 rfl (lv_at hl 1 rfl) ?_
  refine va_alen hx hb hK hP 0 0 rfl rfl (v := nI n_p0) rfl dJ7_fill_53178_3 ?_
  refine lv_istore_n (lv' := [(3, .int (nI n_p0)), (2, .int (0 : Int32)), (0, .ref a_p0), (1, .int x1)]) hx hb dJ7_fill_53178_4 rfl hl (by decide) rfl (fun ls hl => ?_)
  have Lp3 : ∀ (n : Nat) (v1 : Int32) (f2 : Nat → Int32), im_J7_fill_53178_L5 n_p0 x1 n v1 f2 = some r → ∀ (H : Heap) (locs : List Loc) (ls : Array Slot), va_P (dC, dI) vwCl [(a_p0, .inl (cI, n_p0, .inl f2))] H → va_D A [(a_p0, .inl (cI, n_p0, .inl f2))] → va_S A s.heap H locs → lv_has ls 4 [(0, .ref a_p0), (1, .int x1), (2, .int v1), (3, .int (nI n_p0))] → W p l e (headSpec wsJ7_fill_53178 rm_J7_fill_53178).room s m args below meth c H locs 0 0 Q (F0 m 5 ls []) := by
    intro n
    induction n with
    | zero => intro v1 f2 h; rw [im_J7_fill_53178_L5] at h; cases h
    | succ n ih =>
      intro v1 f2 h H locs ls hP hD hS hl
      rw [im_J7_fill_53178_L5] at h
      refine lv_iload_n hx hb dJ7_fill_53178_5 rfl (lv_at hl 2 rfl) ?_
      refine lv_iload_n hx hb dJ7_fill_53178_6 rfl (lv_at hl 3 rfl) ?_
      refine lv_icmp_ge (tgt := 20) hx hb dJ7_fill_53178_7 (by decide) (fun c7 => ?_) (fun c7 => ?_)
      · replace h := im_t c7 h
        rw [eQ]
        exact W.vret hx hb hr (fun t ht hW => ⟨⟨f2, rfl, Option.some.inj h, by rw [ht]; exact hP, va_K.moved hW.alike hK, hD⟩, hS.F ht⟩) hS.2.2 dJ7_fill_53178_20
      · replace h := im_f c7 h
        refine lv_aload_n hx hb dJ7_fill_53178_10 rfl (lv_at hl 0 rfl) ?_
        refine lv_iload_n hx hb dJ7_fill_53178_11 rfl (lv_at hl 2 rfl) ?_
        refine lv_iload_n hx hb dJ7_fill_53178_12 rfl (lv_at hl 1 rfl) ?_
        obtain ⟨q13, h⟩ := im_st_u h
        refine va_iast hx hb hK hP hD hS 0 0 rfl rfl q13 dJ7_fill_53178_13 (fun H locs hP hD hS => ?_)
        obtain ⟨f4, ef4⟩ : ∃ g : Nat → Int32, g = upd f2 v1.toNatClampNeg x1 := ⟨_, rfl⟩
        replace h := h f4 ef4
        rw [← ef4] at hP hD
        have hP : va_P (dC, dI) vwCl [(a_p0, .inl (cI, n_p0, .inl f4))] H := hP
        have hD : va_D A [(a_p0, .inl (cI, n_p0, .inl f4))] := hD
        obtain ⟨v5, ev5⟩ : ∃ y : Int32, y = (v1 + (1 : Int32)) := ⟨_, rfl⟩
        replace h := im_lt_u h v5 ev5
        refine lv_iinc (v := v5) (lv' := [(2, .int v5), (0, .ref a_p0), (1, .int x1), (3, .int (nI n_p0))]) hx hb dJ7_fill_53178_14 hl (k := 2) rfl (by rw [ev5]; rfl) (by decide) rfl (fun ls hl => ?_)
        refine lv_goto (tgt := 5) hx hb dJ7_fill_53178_17 (by decide) ?_
        exact ih v5 f4 h _ _ _ hP hD hS (lv_sub hl [1, 2, 0, 3] rfl)
  exact Lp3 5000 (0 : Int32) f_p0 h _ _ _ hP hD hS (lv_sub hl [2, 3, 1, 0] rfl)
def im_X0_locateLost_L36 (K7 : (Nat → Int32) → Option ((Nat → Int32))) (n_this_locator : Nat) (n_this_powers : Nat) (f_this_powers : Nat → Int32) (v3 : Int32) : Nat → Int32 → (Nat → Int32) → Option ((Nat → Int32))
  | 0, _, _ => none
  | n + 1, v10, f11 => if v10 ≤ 0 then (K7 f11) else im_ld n_this_locator f11 v10 (fun v13 => im_ld n_this_powers f_this_powers v3 (fun v14 => im_lt (v10 - (1 : Int32)) (fun v15 => im_ld n_this_locator f11 v15 (fun v16 => im_b1 (im_X1_product v14 v16) (fun v17 => im_lt (v13 ^^^ v17) (fun v18 => im_st n_this_locator f11 v10 v18 (fun f19 => im_lt (v10 + (-1 : Int32)) (fun v20 => (im_X0_locateLost_L36 K7 n_this_locator n_this_powers f_this_powers v3 n v20 f19)))))))))
def im_X0_locateLost_L17 (i_this_length : Int32) (n_p0 : Nat) (f_p0 : Nat → Int32) (n_this_locator : Nat) (n_this_powers : Nat) (f_this_powers : Nat → Int32) (i_this_checks : Int32) : Nat → Int32 → (Nat → Int32) → Option ((Nat → Int32))
  | 0, _, _ => none
  | n + 1, v3, f4 => if i_this_length ≤ v3 then (some f4) else im_j1 (fun (f6 : Nat → Int32) => im_lt (v3 + (1 : Int32)) (fun v8 => (im_X0_locateLost_L17 i_this_length n_p0 f_p0 n_this_locator n_this_powers f_this_powers i_this_checks n v8 f6))) (fun K7 => im_ld n_p0 f_p0 v3 (fun v9 => if v9 = 0 then (K7 f4) else (im_X0_locateLost_L36 K7 n_this_locator n_this_powers f_this_powers v3 5000 i_this_checks f4)))
def im_X0_locateLost (i_this_length : Int32) (i_this_checks : Int32) (n_p0 : Nat) (n_this_locator : Nat) (n_this_powers : Nat) (f_p0 : Nat → Int32) (f_this_locator : Nat → Int32) (f_this_powers : Nat → Int32) : Option ((Nat → Int32)) := im_b1 (im_J7_fill_53178 (0 : Int32) n_this_locator f_this_locator) (fun f1 => im_st n_this_locator f1 (0 : Int32) (1 : Int32) (fun f2 => (im_X0_locateLost_L17 i_this_length n_p0 f_p0 n_this_locator n_this_powers f_this_powers i_this_checks 5000 (0 : Int32) f2)))
abbrev rm_X0_locateLost : Room := { frames := 1, cells := 0, slots := 0, locals := 24 }
theorem hn_X0_locateLost_X0 : ∀ w ∈ wsX00, w ∈ wsX0_locateLost := by decide +kernel
theorem fl_X0_locateLost_28 : Cond.fieldLink RX0 28 "BarCodes$CheckCode" "locator" "[I" ∈ wsX0_locateLost := by decide +kernel
theorem fl_X0_locateLost_9 : Cond.fieldLink RX0 9 "BarCodes$CheckCode" "length" "I" ∈ wsX0_locateLost := by decide +kernel
theorem fl_X0_locateLost_15 : Cond.fieldLink RX0 15 "BarCodes$CheckCode" "checks" "I" ∈ wsX0_locateLost := by decide +kernel
theorem fl_X0_locateLost_22 : Cond.fieldLink RX0 22 "BarCodes$CheckCode" "powers" "[I" ∈ wsX0_locateLost := by decide +kernel
set_option maxHeartbeats 4000000 in
set_option maxRecDepth 100000 in
theorem c_X0_locateLost (l : Launch) (dC : Nat → ClassId) (dI : Nat → Nat → Nat) (cI cJ cZ : ClassId) (sz : Nat) (a_this a_this_generator a_this_powers a_this_syndromes a_this_locator a_this_former a_this_next a_this_evaluator a_this_slope a_p0 : Nat) (i_this_length i_this_checks : Int32) (n_p0 n_this_locator n_this_powers : Nat) (f_p0 : Nat → Int32) (f_this_locator : Nat → Int32) (f_this_powers : Nat → Int32) {r : (Nat → Int32)} (h : im_X0_locateLost i_this_length i_this_checks n_p0 n_this_locator n_this_powers f_p0 f_this_locator f_this_powers = some r) : Met l yX0_locateLost wsX0_locateLost rm_X0_locateLost (va_Pc [.ref a_this, .ref a_p0] (fun U => U.heap.size = sz ∧ va_P (dC, dI) vwCl [(a_this, .inr (1, [.int i_this_length, .int i_this_checks, .ref a_this_generator, .ref a_this_powers, .ref a_this_syndromes, .ref a_this_locator, .ref a_this_former, .ref a_this_next, .ref a_this_evaluator, .ref a_this_slope])), (a_p0, .inl (cZ, n_p0, .inl f_p0)), (a_this_locator, .inl (cI, n_this_locator, .inl f_this_locator)), (a_this_powers, .inl (cI, n_this_powers, .inl f_this_powers))] U.heap ∧ va_K (dC, dI) vwCl [(cI, .int), (cJ, .long), (cZ, .boolean)] U ∧ va_D (fun _ => True) [(a_this, .inr (1, [.int i_this_length, .int i_this_checks, .ref a_this_generator, .ref a_this_powers, .ref a_this_syndromes, .ref a_this_locator, .ref a_this_former, .ref a_this_next, .ref a_this_evaluator, .ref a_this_slope])), (a_p0, .inl (cZ, n_p0, .inl f_p0)), (a_this_locator, .inl (cI, n_this_locator, .inl f_this_locator)), (a_this_powers, .inl (cI, n_this_powers, .inl f_this_powers))])) (va_Qv (S := (Nat → Int32)) (fun u9 => u9 = r) (fun u9 t9 => va_P (dC, dI) vwCl [(a_this, .inr (1, [.int i_this_length, .int i_this_checks, .ref a_this_generator, .ref a_this_powers, .ref a_this_syndromes, .ref a_this_locator, .ref a_this_former, .ref a_this_next, .ref a_this_evaluator, .ref a_this_slope])), (a_p0, .inl (cZ, n_p0, .inl f_p0)), (a_this_locator, .inl (cI, n_this_locator, .inl (u9))), (a_this_powers, .inl (cI, n_this_powers, .inl f_this_powers))] t9.heap ∧ va_K (dC, dI) vwCl [(cI, .int), (cJ, .long), (cZ, .boolean)] t9 ∧ va_D (va_A [(a_this, .inr (1, [.int i_this_length, .int i_this_checks, .ref a_this_generator, .ref a_this_powers, .ref a_this_syndromes, .ref a_this_locator, .ref a_this_former, .ref a_this_next, .ref a_this_evaluator, .ref a_this_slope])), (a_p0, .inl (cZ, n_p0, .inl f_p0)), (a_this_locator, .inl (cI, n_this_locator, .inl f_this_locator)), (a_this_powers, .inl (cI, n_this_powers, .inl f_this_powers))] sz) [(a_this, .inr (1, [.int i_this_length, .int i_this_checks, .ref a_this_generator, .ref a_this_powers, .ref a_this_syndromes, .ref a_this_locator, .ref a_this_former, .ref a_this_next, .ref a_this_evaluator, .ref a_this_slope])), (a_p0, .inl (cZ, n_p0, .inl f_p0)), (a_this_locator, .inl (cI, n_this_locator, .inl (u9))), (a_this_powers, .inl (cI, n_this_powers, .inl f_this_powers))]) (va_A [(a_this, .inr (1, [.int i_this_length, .int i_this_checks, .ref a_this_generator, .ref a_this_powers, .ref a_this_syndromes, .ref a_this_locator, .ref a_this_former, .ref a_this_next, .ref a_this_evaluator, .ref a_this_slope])), (a_p0, .inl (cZ, n_p0, .inl f_p0)), (a_this_locator, .inl (cI, n_this_locator, .inl f_this_locator)), (a_this_powers, .inl (cI, n_this_powers, .inl f_this_powers))] sz)) 0 0 (va_A [(a_this, .inr (1, [.int i_this_length, .int i_this_checks, .ref a_this_generator, .ref a_this_powers, .ref a_this_syndromes, .ref a_this_locator, .ref a_this_former, .ref a_this_next, .ref a_this_evaluator, .ref a_this_slope])), (a_p0, .inl (cZ, n_p0, .inl f_p0)), (a_this_locator, .inl (cI, n_this_locator, .inl f_this_locator)), (a_this_powers, .inl (cI, n_this_powers, .inl f_this_powers))] sz) := by
  refine Met.ofW (cc := cX0_locateLost) (maxL := 4) (ret := none) (by decide) rfl ?_
  intro p e s m args below meth c s₁ B hml hv
  obtain ⟨eargs, hsz, hP, hK, hD0⟩ := hv
  have hx := B.exec
  have hb := B.bytes
  have hr := B.returns
  have hts := atoms_spec (ws := wsX0_locateLost) B.pre
  have hown : s.vm.findClass RX0 = some m.cls := findClass_of_methodNamed B.named
  have hlocks := B.notSynchronized
  refine im_Q (fun Q eQ => ?_)
  subst hsz
  have hD := hD0.self (sz := s.heap.size)
  generalize hAe : va_A [(a_this, .inr (1, [.int i_this_length, .int i_this_checks, .ref a_this_generator, .ref a_this_powers, .ref a_this_syndromes, .ref a_this_locator, .ref a_this_former, .ref a_this_next, .ref a_this_evaluator, .ref a_this_slope])), (a_p0, .inl (cZ, n_p0, .inl f_p0)), (a_this_locator, .inl (cI, n_this_locator, .inl f_this_locator)), (a_this_powers, .inl (cI, n_this_powers, .inl f_this_powers))] s.heap.size = A at hD eQ
  have hA : ∀ q : Nat, s.heap.size ≤ q → A q := fun q h => by rw [← hAe]; exact Or.inr h
  have hS : va_S A s.heap s.heap [] := va_S.rf
  have hl := lv_entry [.ref a_this, .ref a_p0] (n := 4) (Nat.le_of_ble_eq_true rfl)
  rw [show entryFrame m args 4 = entryFrame m ([.ref a_this, .ref a_p0] : List Value).toArray 4 by rw [eargs], lg_entry_eq]
  generalize (lg_sl ([.ref a_this, .ref a_p0]) ++ List.replicate (4 - (lg_sl ([.ref a_this, .ref a_p0])).length) Slot.unset).toArray = ls at hl ⊢
  have hl : lv_has ls 4 [(0, .ref a_this), (1, .ref a_p0)] := hl
  rw [im_X0_locateLost] at h
  refine lv_aload_n hx hb dX0_locateLost_0 rfl (lv_at hl 0 rfl) ?_
  refine va_get (D := (dC, dI)) (ci := 1) (v := .ref a_this_locator) (C := RX0) (T := TX0) (N := 10) hx hb hts hn_X0_locateLost_X0 hown hK hP 0 rfl rfl 5 (by decide) (hts _ fl_X0_locateLost_28) (fun _ h9 => h9) rfl dX0_locateLost_1 ?_
  refine lv_iconst (v := (0 : Int32)) hx hb dX0_locateLost_4 (by decide) ?_
  obtain ⟨f1, y5, h⟩ := im_b1_u h
  have hPc := hP.sub (ws' := [(a_this_locator, .inl (cI, n_this_locator, .inl f_this_locator))]) [2] rfl
  have hDc := hD.sub (ws' := [(a_this_locator, .inl (cI, n_this_locator, .inl f_this_locator))]) [2] (by decide) rfl
  have hFc := va_free (wc := [(a_this_locator, .inl (cI, n_this_locator, .inl f_this_locator))]) hD hS hA [2] rfl
  refine va_callv (va_runS (As := [.ref a_this_locator, .int (0 : Int32)]) (rest := []) ⟨hx, hb, hml, hown, hts⟩ (c_J7_fill_53178 l dC dI cI cJ cZ s.heap.size a_this_locator n_this_locator f_this_locator (0 : Int32) y5) (va_cwS 2 hts gX0_locateLost_J7_fill_53178 rfl rfl rfl (by decide +kernel) ⟨Nat.le_of_ble_eq_true rfl, Nat.le_of_ble_eq_true rfl⟩) ⟨fun a U g mk q => by obtain ⟨q0, q1, qP, qK, qD⟩ := q; exact ⟨q0, q1, qP, va_K.moved (u := U) (U := U.calling g mk a) (Vm.Alike.refl U.vm) qK, qD⟩, fun U hU hW => ⟨rfl, by rw [hU], by rw [hU]; exact hPc, va_K.moved hW.alike hK, hDc.weaken (fun _ _ _ _ => trivial)⟩⟩ rfl rfl hl.1 rfl (lv_room (Nat.le_of_ble_eq_true rfl)) dX0_locateLost_5 ⟨Nat.zero_le _, Nat.zero_le _⟩) hS (fun q _ h => hFc q h) hFc (fun u9 t9 H1 locs ht9 hvm9 hw9 hB9 hz9 hk9 hS => ?_)
  obtain ⟨hP1, hK1, hD1⟩ := hB9
  rw [ht9] at hP1
  have hw9 := hw9.symm
  subst hw9
  obtain ⟨hP, hD⟩ := va_join (wr := [(a_this, .inr (1, [.int i_this_length, .int i_this_checks, .ref a_this_generator, .ref a_this_powers, .ref a_this_syndromes, .ref a_this_locator, .ref a_this_former, .ref a_this_next, .ref a_this_evaluator, .ref a_this_slope])), (a_p0, .inl (cZ, n_p0, .inl f_p0)), (a_this_powers, .inl (cI, n_this_powers, .inl f_this_powers))]) (w1 := [(a_this_locator, .inl (cI, n_this_locator, .inl f1))]) hP hD [2] [0, 1, 3] rfl rfl (by decide) (by decide) hk9 hFc hP1 hD1
  generalize H1 = H at hP hS ⊢
  have hP := hP.sub (ws' := [(a_this, .inr (1, [.int i_this_length, .int i_this_checks, .ref a_this_generator, .ref a_this_powers, .ref a_this_syndromes, .ref a_this_locator, .ref a_this_former, .ref a_this_next, .ref a_this_evaluator, .ref a_this_slope])), (a_p0, .inl (cZ, n_p0, .inl f_p0)), (a_this_locator, .inl (cI, n_this_locator, .inl f1)), (a_this_powers, .inl (cI, n_this_powers, .inl f_this_powers))]) [0, 1, 3, 2] rfl
  have hD := hD.sub (ws' := [(a_this, .inr (1, [.int i_this_length, .int i_this_checks, .ref a_this_generator, .ref a_this_powers, .ref a_this_syndromes, .ref a_this_locator, .ref a_this_former, .ref a_this_next, .ref a_this_evaluator, .ref a_this_slope])), (a_p0, .inl (cZ, n_p0, .inl f_p0)), (a_this_locator, .inl (cI, n_this_locator, .inl f1)), (a_this_powers, .inl (cI, n_this_powers, .inl f_this_powers))]) [0, 1, 3, 2] (by decide) rfl
  refine lv_aload_n hx hb dX0_locateLost_8 rfl (lv_at hl 0 rfl) ?_
  refine va_get (D := (dC, dI)) (ci := 1) (v := .ref a_this_locator) (C := RX0) (T := TX0) (N := 10) hx hb hts hn_X0_locateLost_X0 hown hK hP 0 rfl rfl 5 (by decide) (hts _ fl_X0_locateLost_28) (fun _ h9 => h9) rfl dX0_locateLost_9 ?_
  refine lv_iconst (v := (0 : Int32)) hx hb dX0_locateLost_12 (by decide) ?_
  refine lv_iconst (v := (1 : Int32)) hx hb dX0_locateLost_13 (by decide) ?_
  obtain ⟨q14, h⟩ := im_st_u h
  refine va_iast hx hb hK hP hD hS 2 0 rfl rfl q14 dX0_locateLost_14 (fun H locs hP hD hS => ?_)
  obtain ⟨f2, ef2⟩ : ∃ g : Nat → Int32, g = upd f1 (0 : Int32).toNatClampNeg (1 : Int32) := ⟨_, rfl⟩
  replace h := h f2 ef2
  rw [← ef2] at hP hD
  have hP : va_P (dC, dI) vwCl [(a_this, .inr (1, [.int i_this_length, .int i_this_checks, .ref a_this_generator, .ref a_this_powers, .ref a_this_syndromes, .ref a_this_locator, .ref a_this_former, .ref a_this_next, .ref a_this_evaluator, .ref a_this_slope])), (a_p0, .inl (cZ, n_p0, .inl f_p0)), (a_this_locator, .inl (cI, n_this_locator, .inl f2)), (a_this_powers, .inl (cI, n_this_powers, .inl f_this_powers))] H := hP
  have hD : va_D A [(a_this, .inr (1, [.int i_this_length, .int i_this_checks, .ref a_this_generator, .ref a_this_powers, .ref a_this_syndromes, .ref a_this_locator, .ref a_this_former, .ref a_this_next, .ref a_this_evaluator, .ref a_this_slope])), (a_p0, .inl (cZ, n_p0, .inl f_p0)), (a_this_locator, .inl (cI, n_this_locator, .inl f2)), (a_this_powers, .inl (cI, n_this_powers, .inl f_this_powers))] := hD
  refine lv_iconst (v := (0 : Int32)) hx hb dX0_locateLost_15 (by decide) ?_
  refine lv_istore_n (lv' := [(2, .int (0 : Int32)), (0, .ref a_this), (1, .ref a_p0)]) hx hb dX0_locateLost_16 rfl hl (by decide) rfl (fun ls hl => ?_)
  have Lp5 : ∀ (n : Nat) (v3 : Int32) (f4 : Nat → Int32), im_X0_locateLost_L17 i_this_length n_p0 f_p0 n_this_locator n_this_powers f_this_powers i_this_checks n v3 f4 = some r → ∀ (H : Heap) (locs : List Loc) (ls : Array Slot), va_P (dC, dI) vwCl [(a_this, .inr (1, [.int i_this_length, .int i_this_checks, .ref a_this_generator, .ref a_this_powers, .ref a_this_syndromes, .ref a_this_locator, .ref a_this_former, .ref a_this_next, .ref a_this_evaluator, .ref a_this_slope])), (a_p0, .inl (cZ, n_p0, .inl f_p0)), (a_this_locator, .inl (cI, n_this_locator, .inl f4)), (a_this_powers, .inl (cI, n_this_powers, .inl f_this_powers))] H → va_D A [(a_this, .inr (1, [.int i_this_length, .int i_this_checks, .ref a_this_generator, .ref a_this_powers, .ref a_this_syndromes, .ref a_this_locator, .ref a_this_former, .ref a_this_next, .ref a_this_evaluator, .ref a_this_slope])), (a_p0, .inl (cZ, n_p0, .inl f_p0)), (a_this_locator, .inl (cI, n_this_locator, .inl f4)), (a_this_powers, .inl (cI, n_this_powers, .inl f_this_powers))] → va_S A s.heap H locs → lv_has ls 4 [(0, .ref a_this), (1, .ref a_p0), (2, .int v3)] → W p l e (headSpec wsX0_locateLost rm_X0_locateLost).room s m args below meth c H locs 0 0 Q (F0 m 17 ls []) := by
    intro n
    induction n with
    | zero => intro v3 f4 h; rw [im_X0_locateLost_L17] at h; cases h
    | succ n ih =>
      intro v3 f4 h H locs ls hP hD hS hl
      rw [im_X0_locateLost_L17] at h
      refine lv_iload_n hx hb dX0_locateLost_17 rfl (lv_at hl 2 rfl) ?_
      refine lv_aload_n hx hb dX0_locateLost_18 rfl (lv_at hl 0 rfl) ?_
      refine va_get (D := (dC, dI)) (ci := 1) (v := .int i_this_length) (C := RX0) (T := TX0) (N := 10) hx hb hts hn_X0_locateLost_X0 hown hK hP 0 rfl rfl 0 (by decide) (hts _ fl_X0_locateLost_9) (fun _ h9 => h9) rfl dX0_locateLost_19 ?_
      refine lv_icmp_ge (tgt := 78) hx hb dX0_locateLost_22 (by decide) (fun c22 => ?_) (fun c22 => ?_)
      · replace h := im_t c22 h
        rw [eQ]
        exact W.vret hx hb hr (fun t ht hW => ⟨⟨f4, rfl, Option.some.inj h, by rw [ht]; exact hP, va_K.moved hW.alike hK, hD⟩, hS.F ht⟩) hS.2.2 dX0_locateLost_78
      · replace h := im_f c22 h
        refine im_j1_u (P := fun f6 => ∀ (H : Heap) (locs : List Loc) (ls : Array Slot), va_P (dC, dI) vwCl [(a_this, .inr (1, [.int i_this_length, .int i_this_checks, .ref a_this_generator, .ref a_this_powers, .ref a_this_syndromes, .ref a_this_locator, .ref a_this_former, .ref a_this_next, .ref a_this_evaluator, .ref a_this_slope])), (a_p0, .inl (cZ, n_p0, .inl f_p0)), (a_this_locator, .inl (cI, n_this_locator, .inl f6)), (a_this_powers, .inl (cI, n_this_powers, .inl f_this_powers))] H → va_D A [(a_this, .inr (1, [.int i_this_length, .int i_this_checks, .ref a_this_generator, .ref a_this_powers, .ref a_this_syndromes, .ref a_this_locator, .ref a_this_former, .ref a_this_next, .ref a_this_evaluator, .ref a_this_slope])), (a_p0, .inl (cZ, n_p0, .inl f_p0)), (a_this_locator, .inl (cI, n_this_locator, .inl f6)), (a_this_powers, .inl (cI, n_this_powers, .inl f_this_powers))] → va_S A s.heap H locs → lv_has ls 4 [(0, .ref a_this), (1, .ref a_p0), (2, .int v3)] → W p l e (headSpec wsX0_locateLost rm_X0_locateLost).room s m args below meth c H locs 0 0 Q (F0 m 72 ls [])) h (fun f6 h H locs ls hP hD hS hl => ?_) (fun K7 J7 h => ?_)
        · obtain ⟨v8, ev8⟩ : ∃ y : Int32, y = (v3 + (1 : Int32)) := ⟨_, rfl⟩
          replace h := im_lt_u h v8 ev8
          refine lv_iinc (v := v8) (lv' := [(2, .int v8), (0, .ref a_this), (1, .ref a_p0)]) hx hb dX0_locateLost_72 hl (k := 2) rfl (by rw [ev8]; rfl) (by decide) rfl (fun ls hl => ?_)
          refine lv_goto (tgt := 17) hx hb dX0_locateLost_75 (by decide) ?_
          exact ih v8 f6 h _ _ _ hP hD hS (lv_sub hl [1, 2, 0] rfl)
        · refine lv_aload_n hx hb dX0_locateLost_25 rfl (lv_at hl 1 rfl) ?_
          refine lv_iload_n hx hb dX0_locateLost_26 rfl (lv_at hl 2 rfl) ?_
          obtain ⟨q27, h⟩ := im_ld_u h
          refine va_zald hx hb hK hP 1 2 rfl rfl q27 dX0_locateLost_27 ?_
          refine lv_topi (fun v9 ev9 => ?_)
          replace h := h v9 ev9
          refine lv_if_eq (tgt := 72) hx hb dX0_locateLost_28 (by decide) (fun c28 => ?_) (fun c28 => ?_)
          · replace h := im_t c28 h
            exact J7 f4 h _ _ _ hP hD hS (lv_sub hl [0, 1, 2] rfl)
          · replace h := im_f c28 h
            refine lv_aload_n hx hb dX0_locateLost_31 rfl (lv_at hl 0 rfl) ?_
            refine va_get (D := (dC, dI)) (ci := 1) (v := .int i_this_checks) (C := RX0) (T := TX0) (N := 10) hx hb hts hn_X0_locateLost_X0 hown hK hP 0 rfl rfl 1 (by decide) (hts _ fl_X0_locateLost_15) (fun _ h9 => h9) rfl dX0_locateLost_32 ?_
            refine lv_istore_n (lv' := [(3, .int i_this_checks), (0, .ref a_this), (1, .ref a_p0), (2, .int v3)]) hx hb dX0_locateLost_35 rfl hl (by decide) rfl (fun ls hl => ?_)
            have Lp12 : ∀ (n : Nat) (v10 : Int32) (f11 : Nat → Int32), im_X0_locateLost_L36 K7 n_this_locator n_this_powers f_this_powers v3 n v10 f11 = some r → ∀ (H : Heap) (locs : List Loc) (ls : Array Slot), va_P (dC, dI) vwCl [(a_this, .inr (1, [.int i_this_length, .int i_this_checks, .ref a_this_generator, .ref a_this_powers, .ref a_this_syndromes, .ref a_this_locator, .ref a_this_former, .ref a_this_next, .ref a_this_evaluator, .ref a_this_slope])), (a_p0, .inl (cZ, n_p0, .inl f_p0)), (a_this_locator, .inl (cI, n_this_locator, .inl f11)), (a_this_powers, .inl (cI, n_this_powers, .inl f_this_powers))] H → va_D A [(a_this, .inr (1, [.int i_this_length, .int i_this_checks, .ref a_this_generator, .ref a_this_powers, .ref a_this_syndromes, .ref a_this_locator, .ref a_this_former, .ref a_this_next, .ref a_this_evaluator, .ref a_this_slope])), (a_p0, .inl (cZ, n_p0, .inl f_p0)), (a_this_locator, .inl (cI, n_this_locator, .inl f11)), (a_this_powers, .inl (cI, n_this_powers, .inl f_this_powers))] → va_S A s.heap H locs → lv_has ls 4 [(0, .ref a_this), (1, .ref a_p0), (2, .int v3), (3, .int v10)] → W p l e (headSpec wsX0_locateLost rm_X0_locateLost).room s m args below meth c H locs 0 0 Q (F0 m 36 ls []) := by
              intro n
              induction n with
              | zero => intro v10 f11 h; rw [im_X0_locateLost_L36] at h; cases h
              | succ n ih =>
                intro v10 f11 h H locs ls hP hD hS hl
                rw [im_X0_locateLost_L36] at h
                refine lv_iload_n hx hb dX0_locateLost_36 rfl (lv_at hl 3 rfl) ?_
                refine lv_if_le (tgt := 72) hx hb dX0_locateLost_37 (by decide) (fun c37 => ?_) (fun c37 => ?_)
                · replace h := im_t c37 h
                  exact J7 f11 h _ _ _ hP hD hS (lv_sub hl [0, 1, 2] rfl)
                · replace h := im_f c37 h
                  refine lv_aload_n hx hb dX0_locateLost_40 rfl (lv_at hl 0 rfl) ?_
                  refine va_get (D := (dC, dI)) (ci := 1) (v := .ref a_this_locator) (C := RX0) (T := TX0) (N := 10) hx hb hts hn_X0_locateLost_X0 hown hK hP 0 rfl rfl 5 (by decide) (hts _ fl_X0_locateLost_28) (fun _ h9 => h9) rfl dX0_locateLost_41 ?_
                  refine lv_iload_n hx hb dX0_locateLost_44 rfl (lv_at hl 3 rfl) ?_
                  refine lv_dup2_11 hx hb dX0_locateLost_45 rfl rfl ?_
                  obtain ⟨q46, h⟩ := im_ld_u h
                  refine va_iald hx hb hK hP 2 0 rfl rfl q46 dX0_locateLost_46 ?_
                  refine lv_topi (fun v13 ev13 => ?_)
                  replace h := h v13 ev13
                  refine lv_aload_n hx hb dX0_locateLost_47 rfl (lv_at hl 0 rfl) ?_
                  refine va_get (D := (dC, dI)) (ci := 1) (v := .ref a_this_powers) (C := RX0) (T := TX0) (N := 10) hx hb hts hn_X0_locateLost_X0 hown hK hP 0 rfl rfl 3 (by decide) (hts _ fl_X0_locateLost_22) (fun _ h9 => h9) rfl dX0_locateLost_48 ?_
                  refine lv_iload_n hx hb dX0_locateLost_51 rfl (lv_at hl 2 rfl) ?_
                  obtain ⟨q52, h⟩ := im_ld_u h
                  refine va_iald hx hb hK hP 3 0 rfl rfl q52 dX0_locateLost_52 ?_
                  refine lv_topi (fun v14 ev14 => ?_)
                  replace h := h v14 ev14
                  refine lv_aload_n hx hb dX0_locateLost_53 rfl (lv_at hl 0 rfl) ?_
                  refine va_get (D := (dC, dI)) (ci := 1) (v := .ref a_this_locator) (C := RX0) (T := TX0) (N := 10) hx hb hts hn_X0_locateLost_X0 hown hK hP 0 rfl rfl 5 (by decide) (hts _ fl_X0_locateLost_28) (fun _ h9 => h9) rfl dX0_locateLost_54 ?_
                  refine lv_iload_n hx hb dX0_locateLost_57 rfl (lv_at hl 3 rfl) ?_
                  refine lv_iconst (v := (1 : Int32)) hx hb dX0_locateLost_58 (by decide) ?_
                  refine lv_isub hx hb dX0_locateLost_59 ?_
                  refine lv_topi (fun v15 ev15 => ?_)
                  replace h := im_lt_u h v15 ev15
                  obtain ⟨q60, h⟩ := im_ld_u h
                  refine va_iald hx hb hK hP 2 0 rfl rfl q60 dX0_locateLost_60 ?_
                  refine lv_topi (fun v16 ev16 => ?_)
                  replace h := h v16 ev16
                  obtain ⟨v17, y61, h⟩ := im_b1_u h
                  refine vp_callSi (W.runS (As := [.int v14, .int v16]) (rest := [.int v13, .int v10, .ref a_this_locator]) ⟨hx, hb, hml, hown, hts⟩ (c_X1_product l v14 v16 y61) (va_cwS 2 hts gX0_locateLost_X1_product rfl rfl rfl (by decide +kernel) ⟨Nat.le_of_ble_eq_true rfl, Nat.le_of_ble_eq_true rfl⟩) ⟨fun _ _ _ _ q => q, fun U hU hW => ⟨rfl, trivial⟩⟩ rfl rfl hl.1 rfl (lv_room (Nat.le_of_ble_eq_true rfl)) dX0_locateLost_61 ⟨Nat.zero_le _, Nat.zero_le _⟩) (fun w61 ew61 => ?_)
                  have ew61 := ew61.symm
                  subst ew61
                  refine lv_ixor hx hb dX0_locateLost_64 ?_
                  refine lv_topi (fun v18 ev18 => ?_)
                  replace h := im_lt_u h v18 ev18
                  obtain ⟨q65, h⟩ := im_st_u h
                  refine va_iast hx hb hK hP hD hS 2 0 rfl rfl q65 dX0_locateLost_65 (fun H locs hP hD hS => ?_)
                  obtain ⟨f19, ef19⟩ : ∃ g : Nat → Int32, g = upd f11 v10.toNatClampNeg v18 := ⟨_, rfl⟩
                  replace h := h f19 ef19
                  rw [← ef19] at hP hD
                  have hP : va_P (dC, dI) vwCl [(a_this, .inr (1, [.int i_this_length, .int i_this_checks, .ref a_this_generator, .ref a_this_powers, .ref a_this_syndromes, .ref a_this_locator, .ref a_this_former, .ref a_this_next, .ref a_this_evaluator, .ref a_this_slope])), (a_p0, .inl (cZ, n_p0, .inl f_p0)), (a_this_locator, .inl (cI, n_this_locator, .inl f19)), (a_this_powers, .inl (cI, n_this_powers, .inl f_this_powers))] H := hP
                  have hD : va_D A [(a_this, .inr (1, [.int i_this_length, .int i_this_checks, .ref a_this_generator, .ref a_this_powers, .ref a_this_syndromes, .ref a_this_locator, .ref a_this_former, .ref a_this_next, .ref a_this_evaluator, .ref a_this_slope])), (a_p0, .inl (cZ, n_p0, .inl f_p0)), (a_this_locator, .inl (cI, n_this_locator, .inl f19)), (a_this_powers, .inl (cI, n_this_powers, .inl f_this_powers))] := hD
                  obtain ⟨v20, ev20⟩ : ∃ y : Int32, y = (v10 + (-1 : Int32)) := ⟨_, rfl⟩
                  replace h := im_lt_u h v20 ev20
                  refine lv_iinc (v := v20) (lv' := [(3, .int v20), (0, .ref a_this), (1, .ref a_p0), (2, .int v3)]) hx hb dX0_locateLost_66 hl (k := 3) rfl (by rw [ev20]; rfl) (by decide) rfl (fun ls hl => ?_)
                  refine lv_goto (tgt := 36) hx hb dX0_locateLost_69 (by decide) ?_
                  exact ih v20 f19 h _ _ _ hP hD hS (lv_sub hl [1, 2, 3, 0] rfl)
            exact Lp12 5000 i_this_checks f4 h _ _ _ hP hD hS (lv_sub hl [1, 2, 3, 0] rfl)
  exact Lp5 5000 (0 : Int32) f2 h _ _ _ hP hD hS (lv_sub hl [1, 2, 0] rfl)
def im_X0_multiplyFormerByX_L5 (K2 : (Nat → Int32) → Option ((Nat → Int32))) (n_this_former : Nat) : Nat → Int32 → (Nat → Int32) → Option ((Nat → Int32))
  | 0, _, _ => none
  | n + 1, v4, f5 => if v4 ≤ 0 then (K2 f5) else im_lt (v4 - (1 : Int32)) (fun v7 => im_ld n_this_former f5 v7 (fun v8 => im_st n_this_former f5 v4 v8 (fun f9 => im_lt (v4 + (-1 : Int32)) (fun v10 => (im_X0_multiplyFormerByX_L5 K2 n_this_former n v10 f9)))))
def im_X0_multiplyFormerByX (i_this_checks : Int32) (n_this_former : Nat) (f_this_former : Nat → Int32) : Option ((Nat → Int32)) := im_j1 (fun (f1 : Nat → Int32) => im_st n_this_former f1 (0 : Int32) (0 : Int32) (fun f3 => (some f3))) (fun K2 => (im_X0_multiplyFormerByX_L5 K2 n_this_former 5000 i_this_checks f_this_former))
abbrev rm_X0_multiplyFormerByX : Room := { frames := 0, cells := 0, slots := 0, locals := 0 }
theorem hn_X0_multiplyFormerByX_X0 : ∀ w ∈ wsX00, w ∈ wsX0_multiplyFormerByX := by decide +kernel
theorem fl_X0_multiplyFormerByX_15 : Cond.fieldLink RX0 15 "BarCodes$CheckCode" "checks" "I" ∈ wsX0_multiplyFormerByX := by decide +kernel
theorem fl_X0_multiplyFormerByX_31 : Cond.fieldLink RX0 31 "BarCodes$CheckCode" "former" "[I" ∈ wsX0_multiplyFormerByX := by decide +kernel
set_option maxHeartbeats 4000000 in
set_option maxRecDepth 100000 in
theorem c_X0_multiplyFormerByX (l : Launch) (dC : Nat → ClassId) (dI : Nat → Nat → Nat) (cI cJ cZ : ClassId) (sz : Nat) (a_this a_this_generator a_this_powers a_this_syndromes a_this_locator a_this_former a_this_next a_this_evaluator a_this_slope : Nat) (i_this_length i_this_checks : Int32) (n_this_former : Nat) (f_this_former : Nat → Int32) {r : (Nat → Int32)} (h : im_X0_multiplyFormerByX i_this_checks n_this_former f_this_former = some r) : Met l yX0_multiplyFormerByX wsX0_multiplyFormerByX rm_X0_multiplyFormerByX (va_Pc [.ref a_this] (fun U => U.heap.size = sz ∧ va_P (dC, dI) vwCl [(a_this, .inr (1, [.int i_this_length, .int i_this_checks, .ref a_this_generator, .ref a_this_powers, .ref a_this_syndromes, .ref a_this_locator, .ref a_this_former, .ref a_this_next, .ref a_this_evaluator, .ref a_this_slope])), (a_this_former, .inl (cI, n_this_former, .inl f_this_former))] U.heap ∧ va_K (dC, dI) vwCl [(cI, .int), (cJ, .long), (cZ, .boolean)] U ∧ va_D (fun _ => True) [(a_this, .inr (1, [.int i_this_length, .int i_this_checks, .ref a_this_generator, .ref a_this_powers, .ref a_this_syndromes, .ref a_this_locator, .ref a_this_former, .ref a_this_next, .ref a_this_evaluator, .ref a_this_slope])), (a_this_former, .inl (cI, n_this_former, .inl f_this_former))])) (va_Qv (S := (Nat → Int32)) (fun u9 => u9 = r) (fun u9 t9 => va_P (dC, dI) vwCl [(a_this, .inr (1, [.int i_this_length, .int i_this_checks, .ref a_this_generator, .ref a_this_powers, .ref a_this_syndromes, .ref a_this_locator, .ref a_this_former, .ref a_this_next, .ref a_this_evaluator, .ref a_this_slope])), (a_this_former, .inl (cI, n_this_former, .inl (u9)))] t9.heap ∧ va_K (dC, dI) vwCl [(cI, .int), (cJ, .long), (cZ, .boolean)] t9 ∧ va_D (va_A [(a_this, .inr (1, [.int i_this_length, .int i_this_checks, .ref a_this_generator, .ref a_this_powers, .ref a_this_syndromes, .ref a_this_locator, .ref a_this_former, .ref a_this_next, .ref a_this_evaluator, .ref a_this_slope])), (a_this_former, .inl (cI, n_this_former, .inl f_this_former))] sz) [(a_this, .inr (1, [.int i_this_length, .int i_this_checks, .ref a_this_generator, .ref a_this_powers, .ref a_this_syndromes, .ref a_this_locator, .ref a_this_former, .ref a_this_next, .ref a_this_evaluator, .ref a_this_slope])), (a_this_former, .inl (cI, n_this_former, .inl (u9)))]) (va_A [(a_this, .inr (1, [.int i_this_length, .int i_this_checks, .ref a_this_generator, .ref a_this_powers, .ref a_this_syndromes, .ref a_this_locator, .ref a_this_former, .ref a_this_next, .ref a_this_evaluator, .ref a_this_slope])), (a_this_former, .inl (cI, n_this_former, .inl f_this_former))] sz)) 0 0 (va_A [(a_this, .inr (1, [.int i_this_length, .int i_this_checks, .ref a_this_generator, .ref a_this_powers, .ref a_this_syndromes, .ref a_this_locator, .ref a_this_former, .ref a_this_next, .ref a_this_evaluator, .ref a_this_slope])), (a_this_former, .inl (cI, n_this_former, .inl f_this_former))] sz) := by
  refine Met.ofW (cc := cX0_multiplyFormerByX) (maxL := 2) (ret := none) (by decide) rfl ?_
  intro p e s m args below meth c s₁ B hml hv
  obtain ⟨eargs, hsz, hP, hK, hD0⟩ := hv
  have hx := B.exec
  have hb := B.bytes
  have hr := B.returns
  have hts := atoms_spec (ws := wsX0_multiplyFormerByX) B.pre
  have hown : s.vm.findClass RX0 = some m.cls := findClass_of_methodNamed B.named
  have hlocks := B.notSynchronized
  refine im_Q (fun Q eQ => ?_)
  subst hsz
  have hD := hD0.self (sz := s.heap.size)
  generalize hAe : va_A [(a_this, .inr (1, [.int i_this_length, .int i_this_checks, .ref a_this_generator, .ref a_this_powers, .ref a_this_syndromes, .ref a_this_locator, .ref a_this_former, .ref a_this_next, .ref a_this_evaluator, .ref a_this_slope])), (a_this_former, .inl (cI, n_this_former, .inl f_this_former))] s.heap.size = A at hD eQ
  have hA : ∀ q : Nat, s.heap.size ≤ q → A q := fun q h => by rw [← hAe]; exact Or.inr h
  have hS : va_S A s.heap s.heap [] := va_S.rf
  have hl := lv_entry [.ref a_this] (n := 2) (Nat.le_of_ble_eq_true rfl)
  rw [show entryFrame m args 2 = entryFrame m ([.ref a_this] : List Value).toArray 2 by rw [eargs], lg_entry_eq]
  generalize (lg_sl ([.ref a_this]) ++ List.replicate (2 - (lg_sl ([.ref a_this])).length) Slot.unset).toArray = ls at hl ⊢
  have hl : lv_has ls 2 [(0, .ref a_this)] := hl
  rw [im_X0_multiplyFormerByX] at h
  refine lv_aload_n hx hb dX0_multiplyFormerByX_0 rfl (lv_at hl 0 rfl) ?_
  refine va_get (D := (dC, dI)) (ci := 1) (v := .int i_this_checks) (C := RX0) (T := TX0) (N := 10) hx hb hts hn_X0_multiplyFormerByX_X0 hown hK hP 0 rfl rfl 1 (by decide) (hts _ fl_X0_multiplyFormerByX_15) (fun _ h9 => h9) rfl dX0_multiplyFormerByX_1 ?_
  refine lv_istore_n (lv' := [(1, .int i_this_checks), (0, .ref a_this)]) hx hb dX0_multiplyFormerByX_4 rfl hl (by decide) rfl (fun ls hl => ?_)
  refine im_j1_u (P := fun f1 => ∀ (H : Heap) (locs : List Loc) (ls : Array Slot), va_P (dC, dI) vwCl [(a_this, .inr (1, [.int i_this_length, .int i_this_checks, .ref a_this_generator, .ref a_this_powers, .ref a_this_syndromes, .ref a_this_locator, .ref a_this_former, .ref a_this_next, .ref a_this_evaluator, .ref a_this_slope])), (a_this_former, .inl (cI, n_this_former, .inl f1))] H → va_D A [(a_this, .inr (1, [.int i_this_length, .int i_this_checks, .ref a_this_generator, .ref a_this_powers, .ref a_this_syndromes, .ref a_this_locator, .ref a_this_former, .ref a_this_next, .ref a_this_evaluator, .ref a_this_slope])), (a_this_former, .inl (cI, n_this_former, .inl f1))] → va_S A s.heap H locs → lv_has ls 2 [(0, .ref a_this)] → W p l e (headSpec wsX0_multiplyFormerByX rm_X0_multiplyFormerByX).room s m args below meth c H locs 0 0 Q (F0 m 29 ls [])) h (fun f1 h H locs ls hP hD hS hl => ?_) (fun K2 J2 h => ?_)
  · refine lv_aload_n hx hb dX0_multiplyFormerByX_29 rfl (lv_at hl 0 rfl) ?_
    refine va_get (D := (dC, dI)) (ci := 1) (v := .ref a_this_former) (C := RX0) (T := TX0) (N := 10) hx hb hts hn_X0_multiplyFormerByX_X0 hown hK hP 0 rfl rfl 6 (by decide) (hts _ fl_X0_multiplyFormerByX_31) (fun _ h9 => h9) rfl dX0_multiplyFormerByX_30 ?_
    refine lv_iconst (v := (0 : Int32)) hx hb dX0_multiplyFormerByX_33 (by decide) ?_
    refine lv_iconst (v := (0 : Int32)) hx hb dX0_multiplyFormerByX_34 (by decide) ?_
    obtain ⟨q35, h⟩ := im_st_u h
    refine va_iast hx hb hK hP hD hS 1 0 rfl rfl q35 dX0_multiplyFormerByX_35 (fun H locs hP hD hS => ?_)
    obtain ⟨f3, ef3⟩ : ∃ g : Nat → Int32, g = upd f1 (0 : Int32).toNatClampNeg (0 : Int32) := ⟨_, rfl⟩
    replace h := h f3 ef3
    rw [← ef3] at hP hD
    have hP : va_P (dC, dI) vwCl [(a_this, .inr (1, [.int i_this_length, .int i_this_checks, .ref a_this_generator, .ref a_this_powers, .ref a_this_syndromes, .ref a_this_locator, .ref a_this_former, .ref a_this_next, .ref a_this_evaluator, .ref a_this_slope])), (a_this_former, .inl (cI, n_this_former, .inl f3))] H := hP
    have hD : va_D A [(a_this, .inr (1, [.int i_this_length, .int i_this_checks, .ref a_this_generator, .ref a_this_powers, .ref a_this_syndromes, .ref a_this_locator, .ref a_this_former, .ref a_this_next, .ref a_this_evaluator, .ref a_this_slope])), (a_this_former, .inl (cI, n_this_former, .inl f3))] := hD
    rw [eQ]
    exact W.vret hx hb hr (fun t ht hW => ⟨⟨f3, rfl, Option.some.inj h, by rw [ht]; exact hP, va_K.moved hW.alike hK, hD⟩, hS.F ht⟩) hS.2.2 dX0_multiplyFormerByX_36
  · have Lp6 : ∀ (n : Nat) (v4 : Int32) (f5 : Nat → Int32), im_X0_multiplyFormerByX_L5 K2 n_this_former n v4 f5 = some r → ∀ (H : Heap) (locs : List Loc) (ls : Array Slot), va_P (dC, dI) vwCl [(a_this, .inr (1, [.int i_this_length, .int i_this_checks, .ref a_this_generator, .ref a_this_powers, .ref a_this_syndromes, .ref a_this_locator, .ref a_this_former, .ref a_this_next, .ref a_this_evaluator, .ref a_this_slope])), (a_this_former, .inl (cI, n_this_former, .inl f5))] H → va_D A [(a_this, .inr (1, [.int i_this_length, .int i_this_checks, .ref a_this_generator, .ref a_this_powers, .ref a_this_syndromes, .ref a_this_locator, .ref a_this_former, .ref a_this_next, .ref a_this_evaluator, .ref a_this_slope])), (a_this_former, .inl (cI, n_this_former, .inl f5))] → va_S A s.heap H locs → lv_has ls 2 [(0, .ref a_this), (1, .int v4)] → W p l e (headSpec wsX0_multiplyFormerByX rm_X0_multiplyFormerByX).room s m args below meth c H locs 0 0 Q (F0 m 5 ls []) := by
      intro n
      induction n with
      | zero => intro v4 f5 h; rw [im_X0_multiplyFormerByX_L5] at h; cases h
      | succ n ih =>
        intro v4 f5 h H locs ls hP hD hS hl
        rw [im_X0_multiplyFormerByX_L5] at h
        refine lv_iload_n hx hb dX0_multiplyFormerByX_5 rfl (lv_at hl 1 rfl) ?_
        refine lv_if_le (tgt := 29) hx hb dX0_multiplyFormerByX_6 (by decide) (fun c6 => ?_) (fun c6 => ?_)
        · replace h := im_t c6 h
          exact J2 f5 h _ _ _ hP hD hS (lv_sub hl [0] rfl)
        · replace h := im_f c6 h
          refine lv_aload_n hx hb dX0_multiplyFormerByX_9 rfl (lv_at hl 0 rfl) ?_
          refine va_get (D := (dC, dI)) (ci := 1) (v := .ref a_this_former) (C := RX0) (T := TX0) (N := 10) hx hb hts hn_X0_multiplyFormerByX_X0 hown hK hP 0 rfl rfl 6 (by decide) (hts _ fl_X0_multiplyFormerByX_31) (fun _ h9 => h9) rfl dX0_multiplyFormerByX_10 ?_
          refine lv_iload_n hx hb dX0_multiplyFormerByX_13 rfl (lv_at hl 1 rfl) ?_
          refine lv_aload_n hx hb dX0_multiplyFormerByX_14 rfl (lv_at hl 0 rfl) ?_
          refine va_get (D := (dC, dI)) (ci := 1) (v := .ref a_this_former) (C := RX0) (T := TX0) (N := 10) hx hb hts hn_X0_multiplyFormerByX_X0 hown hK hP 0 rfl rfl 6 (by decide) (hts _ fl_X0_multiplyFormerByX_31) (fun _ h9 => h9) rfl dX0_multiplyFormerByX_15 ?_
          refine lv_iload_n hx hb dX0_multiplyFormerByX_18 rfl (lv_at hl 1 rfl) ?_
          refine lv_iconst (v := (1 : Int32)) hx hb dX0_multiplyFormerByX_19 (by decide) ?_
          refine lv_isub hx hb dX0_multiplyFormerByX_20 ?_
          refine lv_topi (fun v7 ev7 => ?_)
          replace h := im_lt_u h v7 ev7
          obtain ⟨q21, h⟩ := im_ld_u h
          refine va_iald hx hb hK hP 1 0 rfl rfl q21 dX0_multiplyFormerByX_21 ?_
          refine lv_topi (fun v8 ev8 => ?_)
          replace h := h v8 ev8
          obtain ⟨q22, h⟩ := im_st_u h
          refine va_iast hx hb hK hP hD hS 1 0 rfl rfl q22 dX0_multiplyFormerByX_22 (fun H locs hP hD hS => ?_)
          obtain ⟨f9, ef9⟩ : ∃ g : Nat → Int32, g = upd f5 v4.toNatClampNeg v8 := ⟨_, rfl⟩
          replace h := h f9 ef9
          rw [← ef9] at hP hD
          have hP : va_P (dC, dI) vwCl [(a_this, .inr (1, [.int i_this_length, .int i_this_checks, .ref a_this_generator, .ref a_this_powers, .ref a_this_syndromes, .ref a_this_locator, .ref a_this_former, .ref a_this_next, .ref a_this_evaluator, .ref a_this_slope])), (a_this_former, .inl (cI, n_this_former, .inl f9))] H := hP
          have hD : va_D A [(a_this, .inr (1, [.int i_this_length, .int i_this_checks, .ref a_this_generator, .ref a_this_powers, .ref a_this_syndromes, .ref a_this_locator, .ref a_this_former, .ref a_this_next, .ref a_this_evaluator, .ref a_this_slope])), (a_this_former, .inl (cI, n_this_former, .inl f9))] := hD
          obtain ⟨v10, ev10⟩ : ∃ y : Int32, y = (v4 + (-1 : Int32)) := ⟨_, rfl⟩
          replace h := im_lt_u h v10 ev10
          refine lv_iinc (v := v10) (lv' := [(1, .int v10), (0, .ref a_this)]) hx hb dX0_multiplyFormerByX_23 hl (k := 1) rfl (by rw [ev10]; rfl) (by decide) rfl (fun ls hl => ?_)
          refine lv_goto (tgt := 5) hx hb dX0_multiplyFormerByX_26 (by decide) ?_
          exact ih v10 f9 h _ _ _ hP hD hS (lv_sub hl [1, 0] rfl)
    exact Lp6 5000 i_this_checks f_this_former h _ _ _ hP hD hS (lv_sub hl [1, 0] rfl)
def im_X0_gapAt_L4 (x0 : Int32) (n_this_locator : Nat) (f_this_locator : Nat → Int32) (n_this_syndromes : Nat) (f_this_syndromes : Nat → Int32) : Nat → Int32 → Int32 → Option (Int32)
  | 0, _, _ => none
  | n + 1, v1, v2 => if x0 < v2 then (some v1) else im_ld n_this_locator f_this_locator v2 (fun v4 => im_lt (x0 - v2) (fun v5 => im_ld n_this_syndromes f_this_syndromes v5 (fun v6 => im_b1 (im_X1_product v4 v6) (fun v7 => im_lt (v1 ^^^ v7) (fun v8 => im_lt (v2 + (1 : Int32)) (fun v9 => (im_X0_gapAt_L4 x0 n_this_locator f_this_locator n_this_syndromes f_this_syndromes n v8 v9)))))))
def im_X0_gapAt (x0 : Int32) (n_this_locator : Nat) (n_this_syndromes : Nat) (f_this_locator : Nat → Int32) (f_this_syndromes : Nat → Int32) : Option (Int32) := (im_X0_gapAt_L4 x0 n_this_locator f_this_locator n_this_syndromes f_this_syndromes 5000 (0 : Int32) (0 : Int32))
abbrev rm_X0_gapAt : Room := { frames := 1, cells := 0, slots := 0, locals := 24 }
theorem hn_X0_gapAt_X0 : ∀ w ∈ wsX00, w ∈ wsX0_gapAt := by decide +kernel
theorem fl_X0_gapAt_28 : Cond.fieldLink RX0 28 "BarCodes$CheckCode" "locator" "[I" ∈ wsX0_gapAt := by decide +kernel
theorem fl_X0_gapAt_25 : Cond.fieldLink RX0 25 "BarCodes$CheckCode" "syndromes" "[I" ∈ wsX0_gapAt := by decide +kernel
set_option maxHeartbeats 4000000 in
set_option maxRecDepth 100000 in
theorem c_X0_gapAt (l : Launch) (dC : Nat → ClassId) (dI : Nat → Nat → Nat) (cI cJ cZ : ClassId) (a_this a_this_generator a_this_powers a_this_syndromes a_this_locator a_this_former a_this_next a_this_evaluator a_this_slope : Nat) (i_this_length i_this_checks : Int32) (n_this_locator n_this_syndromes : Nat) (f_this_locator : Nat → Int32) (f_this_syndromes : Nat → Int32) (x0 : Int32) {r : Int32} (h : im_X0_gapAt x0 n_this_locator n_this_syndromes f_this_locator f_this_syndromes = some r) : Met l yX0_gapAt wsX0_gapAt rm_X0_gapAt (va_Pc [.ref a_this, .int x0] (fun U => va_P (dC, dI) vwCl [(a_this, .inr (1, [.int i_this_length, .int i_this_checks, .ref a_this_generator, .ref a_this_powers, .ref a_this_syndromes, .ref a_this_locator, .ref a_this_former, .ref a_this_next, .ref a_this_evaluator, .ref a_this_slope])), (a_this_locator, .inl (cI, n_this_locator, .inl f_this_locator)), (a_this_syndromes, .inl (cI, n_this_syndromes, .inl f_this_syndromes))] U.heap ∧ va_K (dC, dI) vwCl [(cI, .int), (cJ, .long), (cZ, .boolean)] U)) (vp_Si (fun r9 => r9 = r)) 0 0 (fun _ => False) := by
  refine Met.ofW (cc := cX0_gapAt) (maxL := 4) (ret := (some .int)) (by decide) rfl ?_
  intro p e s m args below meth c s₁ B hml hv
  obtain ⟨eargs, hP, hK⟩ := hv
  have hx := B.exec
  have hb := B.bytes
  have hr := B.returns
  have hts := atoms_spec (ws := wsX0_gapAt) B.pre
  have hown : s.vm.findClass RX0 = some m.cls := findClass_of_methodNamed B.named
  have hlocks := B.notSynchronized
  refine im_Q (fun Q eQ => ?_)
  have hl := lv_entry [.ref a_this, .int x0] (n := 4) (Nat.le_of_ble_eq_true rfl)
  rw [show entryFrame m args 4 = entryFrame m ([.ref a_this, .int x0] : List Value).toArray 4 by rw [eargs], lg_entry_eq]
  generalize (lg_sl ([.ref a_this, .int x0]) ++ List.replicate (4 - (lg_sl ([.ref a_this, .int x0])).length) Slot.unset).toArray = ls at hl ⊢
  have hl : lv_has ls 4 [(0, .ref a_this), (1, .int x0)] := hl
  rw [im_X0_gapAt] at h
  refine lv_iconst (v := (0 : Int32)) hx hb dX0_gapAt_0 (by decide) ?_
  refine lv_istore_n (lv' := [(2, .int (0 : Int32)), (0, .ref a_this), (1, .int x0)]) hx hb dX0_gapAt_1 rfl hl (by decide) rfl (fun ls hl => ?_)
  refine lv_iconst (v := (0 : Int32)) hx hb dX0_gapAt_2 (by decide) ?_
  refine lv_istore_n (lv' := [(3, .int (0 : Int32)), (2, .int (0 : Int32)), (0, .ref a_this), (1, .int x0)]) hx hb dX0_gapAt_3 rfl hl (by decide) rfl (fun ls hl => ?_)
  have Lp3 : ∀ (n : Nat) (v1 : Int32) (v2 : Int32), im_X0_gapAt_L4 x0 n_this_locator f_this_locator n_this_syndromes f_this_syndromes n v1 v2 = some r → ∀ (ls : Array Slot), lv_has ls 4 [(0, .ref a_this), (1, .int x0), (2, .int v1), (3, .int v2)] → W p l e (headSpec wsX0_gapAt rm_X0_gapAt).room s m args below meth c s.heap [] 0 0 Q (F0 m 4 ls []) := by
    intro n
    induction n with
    | zero => intro v1 v2 h; rw [im_X0_gapAt_L4] at h; cases h
    | succ n ih =>
      intro v1 v2 h ls hl
      rw [im_X0_gapAt_L4] at h
      refine lv_iload_n hx hb dX0_gapAt_4 rfl (lv_at hl 3 rfl) ?_
      refine lv_iload_n hx hb dX0_gapAt_5 rfl (lv_at hl 1 rfl) ?_
      refine lv_icmp_gt (tgt := 35) hx hb dX0_gapAt_6 (by decide) (fun c6 => ?_) (fun c6 => ?_)
      · replace h := im_t c6 h
        refine lv_iload_n hx hb dX0_gapAt_35 rfl (lv_at hl 2 rfl) ?_
        rw [eQ]
        exact W.iret (v := v1) hx hb hr (fun t ht hW => ⟨_, rfl, Option.some.inj h, ht⟩) (fun _ h9 => by cases h9) dX0_gapAt_36
      · replace h := im_f c6 h
        refine lv_iload_n hx hb dX0_gapAt_9 rfl (lv_at hl 2 rfl) ?_
        refine lv_aload_n hx hb dX0_gapAt_10 rfl (lv_at hl 0 rfl) ?_
        refine va_get (D := (dC, dI)) (ci := 1) (v := .ref a_this_locator) (C := RX0) (T := TX0) (N := 10) hx hb hts hn_X0_gapAt_X0 hown hK hP 0 rfl rfl 5 (by decide) (hts _ fl_X0_gapAt_28) (fun _ h9 => h9) rfl dX0_gapAt_11 ?_
        refine lv_iload_n hx hb dX0_gapAt_14 rfl (lv_at hl 3 rfl) ?_
        obtain ⟨q15, h⟩ := im_ld_u h
        refine va_iald hx hb hK hP 1 0 rfl rfl q15 dX0_gapAt_15 ?_
        refine lv_topi (fun v4 ev4 => ?_)
        replace h := h v4 ev4
        refine lv_aload_n hx hb dX0_gapAt_16 rfl (lv_at hl 0 rfl) ?_
        refine va_get (D := (dC, dI)) (ci := 1) (v := .ref a_this_syndromes) (C := RX0) (T := TX0) (N := 10) hx hb hts hn_X0_gapAt_X0 hown hK hP 0 rfl rfl 4 (by decide) (hts _ fl_X0_gapAt_25) (fun _ h9 => h9) rfl dX0_gapAt_17 ?_
        refine lv_iload_n hx hb dX0_gapAt_20 rfl (lv_at hl 1 rfl) ?_
        refine lv_iload_n hx hb dX0_gapAt_21 rfl (lv_at hl 3 rfl) ?_
        refine lv_isub hx hb dX0_gapAt_22 ?_
        refine lv_topi (fun v5 ev5 => ?_)
        replace h := im_lt_u h v5 ev5
        obtain ⟨q23, h⟩ := im_ld_u h
        refine va_iald hx hb hK hP 2 0 rfl rfl q23 dX0_gapAt_23 ?_
        refine lv_topi (fun v6 ev6 => ?_)
        replace h := h v6 ev6
        obtain ⟨v7, y24, h⟩ := im_b1_u h
        refine vp_callSi (W.runS (As := [.int v4, .int v6]) (rest := [.int v1]) ⟨hx, hb, hml, hown, hts⟩ (c_X1_product l v4 v6 y24) (va_cwS 2 hts gX0_gapAt_X1_product rfl rfl rfl (by decide +kernel) ⟨Nat.le_of_ble_eq_true rfl, Nat.le_of_ble_eq_true rfl⟩) ⟨fun _ _ _ _ q => q, fun U hU hW => ⟨rfl, trivial⟩⟩ rfl rfl hl.1 rfl (lv_room (Nat.le_of_ble_eq_true rfl)) dX0_gapAt_24 ⟨Nat.zero_le _, Nat.zero_le _⟩) (fun w24 ew24 => ?_)
        have ew24 := ew24.symm
        subst ew24
        refine lv_ixor hx hb dX0_gapAt_27 ?_
        refine lv_topi (fun v8 ev8 => ?_)
        replace h := im_lt_u h v8 ev8
        refine lv_istore_n (lv' := [(2, .int v8), (0, .ref a_this), (1, .int x0), (3, .int v2)]) hx hb dX0_gapAt_28 rfl hl (by decide) rfl (fun ls hl => ?_)
        obtain ⟨v9, ev9⟩ : ∃ y : Int32, y = (v2 + (1 : Int32)) := ⟨_, rfl⟩
        replace h := im_lt_u h v9 ev9
        refine lv_iinc (v := v9) (lv' := [(3, .int v9), (2, .int v8), (0, .ref a_this), (1, .int x0)]) hx hb dX0_gapAt_29 hl (k := 3) rfl (by rw [ev9]; rfl) (by decide) rfl (fun ls hl => ?_)
        refine lv_goto (tgt := 4) hx hb dX0_gapAt_32 (by decide) ?_
        exact ih v8 v9 h _ (lv_sub hl [2, 3, 1, 0] rfl)
  exact Lp3 5000 (0 : Int32) (0 : Int32) h _ (lv_sub hl [2, 3, 1, 0] rfl)
def im_X0_addFormer_L51 (i_this_checks : Int32) (K4 : (Nat → Int32) → Option ((Nat → Int32) × (Nat → Int32) × (Nat → Int32))) (n_this_locator : Nat) (f_this_locator : Nat → Int32) (v7 : Int32) (n_this_former : Nat) : Nat → Int32 → (Nat → Int32) → Option ((Nat → Int32) × (Nat → Int32) × (Nat → Int32))
  | 0, _, _ => none
  | n + 1, v8, f9 => if i_this_checks < v8 then (K4 f9) else im_ld n_this_locator f_this_locator v8 (fun v11 => im_b1 (im_X1_product v7 v11) (fun v12 => im_st n_this_former f9 v8 v12 (fun f13 => im_lt (v8 + (1 : Int32)) (fun v14 => (im_X0_addFormer_L51 i_this_checks K4 n_this_locator f_this_locator v7 n_this_former n v14 f13)))))
def im_X0_addFormer_L2 (i_this_checks : Int32) (K2 : (Nat → Int32) → Option ((Nat → Int32) × (Nat → Int32) × (Nat → Int32))) (n_this_locator : Nat) (f_this_locator : Nat → Int32) (n_this_former : Nat) (f_this_former : Nat → Int32) (x0 : Int32) (n_this_next : Nat) : Nat → Int32 → (Nat → Int32) → Option ((Nat → Int32) × (Nat → Int32) × (Nat → Int32))
  | 0, _, _ => none
  | n + 1, v15, f16 => if i_this_checks < v15 then (K2 f16) else im_ld n_this_locator f_this_locator v15 (fun v18 => im_ld n_this_former f_this_former v15 (fun v19 => im_b1 (im_X1_product x0 v19) (fun v20 => im_lt (v18 ^^^ v20) (fun v21 => im_st n_this_next f16 v15 v21 (fun f22 => im_lt (v15 + (1 : Int32)) (fun v23 => (im_X0_addFormer_L2 i_this_checks K2 n_this_locator f_this_locator n_this_former f_this_former x0 n_this_next n v23 f22)))))))
def im_X0_addFormer (x0 : Int32) (x1 : Int32) (i_this_checks : Int32) (n_this_former : Nat) (n_this_locator : Nat) (n_this_next : Nat) (f_this_former : Nat → Int32) (f_this_locator : Nat → Int32) (f_this_next : Nat → Int32) : Option ((Nat → Int32) × (Nat → Int32) × (Nat → Int32)) := im_j1 (fun (f1 : Nat → Int32) => im_j1 (fun (f3 : Nat → Int32) => im_lt (i_this_checks + (1 : Int32)) (fun v5 => im_cp n_this_next n_this_locator f1 f_this_locator (0 : Int32) (0 : Int32) v5 (fun f6 => (some (f3, f6, f1))))) (fun K4 => if x1 = 0 then (K4 f_this_former) else im_b1 (im_X1_inverse x0) (fun v7 => (im_X0_addFormer_L51 i_this_checks K4 n_this_locator f_this_locator v7 n_this_former 5000 (0 : Int32) f_this_former)))) (fun K2 => (im_X0_addFormer_L2 i_this_checks K2 n_this_locator f_this_locator n_this_former f_this_former x0 n_this_next 5000 (0 : Int32) f_this_next))
abbrev rm_X0_addFormer : Room := { frames := 2, cells := 0, slots := 0, locals := 60 }
theorem hn_X0_addFormer_X0 : ∀ w ∈ wsX00, w ∈ wsX0_addFormer := by decide +kernel
theorem fl_X0_addFormer_34 : Cond.fieldLink RX0 34 "BarCodes$CheckCode" "next" "[I" ∈ wsX0_addFormer := by decide +kernel
theorem fl_X0_addFormer_28 : Cond.fieldLink RX0 28 "BarCodes$CheckCode" "locator" "[I" ∈ wsX0_addFormer := by decide +kernel
theorem fl_X0_addFormer_15 : Cond.fieldLink RX0 15 "BarCodes$CheckCode" "checks" "I" ∈ wsX0_addFormer := by decide +kernel
theorem ac_X0_addFormer_ml91 : Cond.methodLink RX0 91 arraycopyName ∈ wsX0_addFormer := by decide +kernel
theorem ac_X0_addFormer_na91 : Cond.native arraycopyName ∈ wsX0_addFormer := by decide +kernel
theorem ac_X0_addFormer_sa91 : Cond.static arraycopyName ∈ wsX0_addFormer := by decide +kernel
theorem ac_X0_addFormer_iy91 : Cond.initialized "java/lang/System" ∈ wsX0_addFormer := by decide +kernel
theorem fl_X0_addFormer_31 : Cond.fieldLink RX0 31 "BarCodes$CheckCode" "former" "[I" ∈ wsX0_addFormer := by decide +kernel
set_option maxHeartbeats 4000000 in
set_option maxRecDepth 100000 in
theorem c_X0_addFormer (l : Launch) (dC : Nat → ClassId) (dI : Nat → Nat → Nat) (cI cJ cZ : ClassId) (sz : Nat) (a_this a_this_generator a_this_powers a_this_syndromes a_this_locator a_this_former a_this_next a_this_evaluator a_this_slope : Nat) (i_this_length i_this_checks : Int32) (n_this_former n_this_locator n_this_next : Nat) (f_this_former : Nat → Int32) (f_this_locator : Nat → Int32) (f_this_next : Nat → Int32) (x0 : Int32) (x1 : Int32) {r : (Nat → Int32) × (Nat → Int32) × (Nat → Int32)} (h : im_X0_addFormer x0 x1 i_this_checks n_this_former n_this_locator n_this_next f_this_former f_this_locator f_this_next = some r) : Met l yX0_addFormer wsX0_addFormer rm_X0_addFormer (va_Pc [.ref a_this, .int x0, .int x1] (fun U => U.heap.size = sz ∧ va_P (dC, dI) vwCl [(a_this, .inr (1, [.int i_this_length, .int i_this_checks, .ref a_this_generator, .ref a_this_powers, .ref a_this_syndromes, .ref a_this_locator, .ref a_this_former, .ref a_this_next, .ref a_this_evaluator, .ref a_this_slope])), (a_this_former, .inl (cI, n_this_former, .inl f_this_former)), (a_this_locator, .inl (cI, n_this_locator, .inl f_this_locator)), (a_this_next, .inl (cI, n_this_next, .inl f_this_next))] U.heap ∧ va_K (dC, dI) vwCl [(cI, .int), (cJ, .long), (cZ, .boolean)] U ∧ va_D (fun _ => True) [(a_this, .inr (1, [.int i_this_length, .int i_this_checks, .ref a_this_generator, .ref a_this_powers, .ref a_this_syndromes, .ref a_this_locator, .ref a_this_former, .ref a_this_next, .ref a_this_evaluator, .ref a_this_slope])), (a_this_former, .inl (cI, n_this_former, .inl f_this_former)), (a_this_locator, .inl (cI, n_this_locator, .inl f_this_locator)), (a_this_next, .inl (cI, n_this_next, .inl f_this_next))])) (va_Qv (S := (Nat → Int32) × (Nat → Int32) × (Nat → Int32)) (fun u9 => u9 = r) (fun u9 t9 => va_P (dC, dI) vwCl [(a_this, .inr (1, [.int i_this_length, .int i_this_checks, .ref a_this_generator, .ref a_this_powers, .ref a_this_syndromes, .ref a_this_locator, .ref a_this_former, .ref a_this_next, .ref a_this_evaluator, .ref a_this_slope])), (a_this_former, .inl (cI, n_this_former, .inl (u9.1))), (a_this_locator, .inl (cI, n_this_locator, .inl (u9.2.1))), (a_this_next, .inl (cI, n_this_next, .inl (u9.2.2)))] t9.heap ∧ va_K (dC, dI) vwCl [(cI, .int), (cJ, .long), (cZ, .boolean)] t9 ∧ va_D (va_A [(a_this, .inr (1, [.int i_this_length, .int i_this_checks, .ref a_this_generator, .ref a_this_powers, .ref a_this_syndromes, .ref a_this_locator, .ref a_this_former, .ref a_this_next, .ref a_this_evaluator, .ref a_this_slope])), (a_this_former, .inl (cI, n_this_former, .inl f_this_former)), (a_this_locator, .inl (cI, n_this_locator, .inl f_this_locator)), (a_this_next, .inl (cI, n_this_next, .inl f_this_next))] sz) [(a_this, .inr (1, [.int i_this_length, .int i_this_checks, .ref a_this_generator, .ref a_this_powers, .ref a_this_syndromes, .ref a_this_locator, .ref a_this_former, .ref a_this_next, .ref a_this_evaluator, .ref a_this_slope])), (a_this_former, .inl (cI, n_this_former, .inl (u9.1))), (a_this_locator, .inl (cI, n_this_locator, .inl (u9.2.1))), (a_this_next, .inl (cI, n_this_next, .inl (u9.2.2)))]) (va_A [(a_this, .inr (1, [.int i_this_length, .int i_this_checks, .ref a_this_generator, .ref a_this_powers, .ref a_this_syndromes, .ref a_this_locator, .ref a_this_former, .ref a_this_next, .ref a_this_evaluator, .ref a_this_slope])), (a_this_former, .inl (cI, n_this_former, .inl f_this_former)), (a_this_locator, .inl (cI, n_this_locator, .inl f_this_locator)), (a_this_next, .inl (cI, n_this_next, .inl f_this_next))] sz)) 0 0 (va_A [(a_this, .inr (1, [.int i_this_length, .int i_this_checks, .ref a_this_generator, .ref a_this_powers, .ref a_this_syndromes, .ref a_this_locator, .ref a_this_former, .ref a_this_next, .ref a_this_evaluator, .ref a_this_slope])), (a_this_former, .inl (cI, n_this_former, .inl f_this_former)), (a_this_locator, .inl (cI, n_this_locator, .inl f_this_locator)), (a_this_next, .inl (cI, n_this_next, .inl f_this_next))] sz) := by
  refine Met.ofW (cc := cX0_addFormer) (maxL := 5) (ret := none) (by decide) rfl ?_
  intro p e s m args below meth c s₁ B hml hv
  obtain ⟨eargs, hsz, hP, hK, hD0⟩ := hv
  have hx := B.exec
  have hb := B.bytes
  have hr := B.returns
  have hts := atoms_spec (ws := wsX0_addFormer) B.pre
  have hown : s.vm.findClass RX0 = some m.cls := findClass_of_methodNamed B.named
  have hlocks := B.notSynchronized
  refine im_Q (fun Q eQ => ?_)
  subst hsz
  have hD := hD0.self (sz := s.heap.size)
  generalize hAe : va_A [(a_this, .inr (1, [.int i_this_length, .int i_this_checks, .ref a_this_generator, .ref a_this_powers, .ref a_this_syndromes, .ref a_this_locator, .ref a_this_former, .ref a_this_next, .ref a_this_evaluator, .ref a_this_slope])), (a_this_former, .inl (cI, n_this_former, .inl f_this_former)), (a_this_locator, .inl (cI, n_this_locator, .inl f_this_locator)), (a_this_next, .inl (cI, n_this_next, .inl f_this_next))] s.heap.size = A at hD eQ
  have hA : ∀ q : Nat, s.heap.size ≤ q → A q := fun q h => by rw [← hAe]; exact Or.inr h
  have hS : va_S A s.heap s.heap [] := va_S.rf
  have hl := lv_entry [.ref a_this, .int x0, .int x1] (n := 5) (Nat.le_of_ble_eq_true rfl)
  rw [show entryFrame m args 5 = entryFrame m ([.ref a_this, .int x0, .int x1] : List Value).toArray 5 by rw [eargs], lg_entry_eq]
  generalize (lg_sl ([.ref a_this, .int x0, .int x1]) ++ List.replicate (5 - (lg_sl ([.ref a_this, .int x0, .int x1])).length) Slot.unset).toArray = ls at hl ⊢
  have hl : lv_has ls 5 [(0, .ref a_this), (1, .int x0), (2, .int x1)] := hl
  rw [im_X0_addFormer] at h
  refine lv_iconst (v := (0 : Int32)) hx hb dX0_addFormer_0 (by decide) ?_
  refine lv_istore_n (lv' := [(3, .int (0 : Int32)), (0, .ref a_this), (1, .int x0), (2, .int x1)]) hx hb dX0_addFormer_1 rfl hl (by decide) rfl (fun ls hl => ?_)
  refine im_j1_u (P := fun f1 => ∀ (H : Heap) (locs : List Loc) (ls : Array Slot), va_P (dC, dI) vwCl [(a_this, .inr (1, [.int i_this_length, .int i_this_checks, .ref a_this_generator, .ref a_this_powers, .ref a_this_syndromes, .ref a_this_locator, .ref a_this_former, .ref a_this_next, .ref a_this_evaluator, .ref a_this_slope])), (a_this_former, .inl (cI, n_this_former, .inl f_this_former)), (a_this_locator, .inl (cI, n_this_locator, .inl f_this_locator)), (a_this_next, .inl (cI, n_this_next, .inl f1))] H → va_D A [(a_this, .inr (1, [.int i_this_length, .int i_this_checks, .ref a_this_generator, .ref a_this_powers, .ref a_this_syndromes, .ref a_this_locator, .ref a_this_former, .ref a_this_next, .ref a_this_evaluator, .ref a_this_slope])), (a_this_former, .inl (cI, n_this_former, .inl f_this_former)), (a_this_locator, .inl (cI, n_this_locator, .inl f_this_locator)), (a_this_next, .inl (cI, n_this_next, .inl f1))] → va_S A s.heap H locs → lv_has ls 5 [(0, .ref a_this), (1, .int x0), (2, .int x1)] → W p l e (headSpec wsX0_addFormer rm_X0_addFormer).room s m args below meth c H locs 0 0 Q (F0 m 39 ls [])) h (fun f1 h H locs ls hP hD hS hl => ?_) (fun K2 J2 h => ?_)
  · refine im_j1_u (P := fun f3 => ∀ (H : Heap) (locs : List Loc) (ls : Array Slot), va_P (dC, dI) vwCl [(a_this, .inr (1, [.int i_this_length, .int i_this_checks, .ref a_this_generator, .ref a_this_powers, .ref a_this_syndromes, .ref a_this_locator, .ref a_this_former, .ref a_this_next, .ref a_this_evaluator, .ref a_this_slope])), (a_this_former, .inl (cI, n_this_former, .inl f3)), (a_this_locator, .inl (cI, n_this_locator, .inl f_this_locator)), (a_this_next, .inl (cI, n_this_next, .inl f1))] H → va_D A [(a_this, .inr (1, [.int i_this_length, .int i_this_checks, .ref a_this_generator, .ref a_this_powers, .ref a_this_syndromes, .ref a_this_locator, .ref a_this_former, .ref a_this_next, .ref a_this_evaluator, .ref a_this_slope])), (a_this_former, .inl (cI, n_this_former, .inl f3)), (a_this_locator, .inl (cI, n_this_locator, .inl f_this_locator)), (a_this_next, .inl (cI, n_this_next, .inl f1))] → va_S A s.heap H locs → lv_has ls 5 [(0, .ref a_this)] → W p l e (headSpec wsX0_addFormer rm_X0_addFormer).room s m args below meth c H locs 0 0 Q (F0 m 84 ls [])) h (fun f3 h H locs ls hP hD hS hl => ?_) (fun K4 J4 h => ?_)
    · refine lv_aload_n hx hb dX0_addFormer_84 rfl (lv_at hl 0 rfl) ?_
      refine va_get (D := (dC, dI)) (ci := 1) (v := .ref a_this_next) (C := RX0) (T := TX0) (N := 10) hx hb hts hn_X0_addFormer_X0 hown hK hP 0 rfl rfl 7 (by decide) (hts _ fl_X0_addFormer_34) (fun _ h9 => h9) rfl dX0_addFormer_85 ?_
      refine lv_iconst (v := (0 : Int32)) hx hb dX0_addFormer_88 (by decide) ?_
      refine lv_aload_n hx hb dX0_addFormer_89 rfl (lv_at hl 0 rfl) ?_
      refine va_get (D := (dC, dI)) (ci := 1) (v := .ref a_this_locator) (C := RX0) (T := TX0) (N := 10) hx hb hts hn_X0_addFormer_X0 hown hK hP 0 rfl rfl 5 (by decide) (hts _ fl_X0_addFormer_28) (fun _ h9 => h9) rfl dX0_addFormer_90 ?_
      refine lv_iconst (v := (0 : Int32)) hx hb dX0_addFormer_93 (by decide) ?_
      refine lv_aload_n hx hb dX0_addFormer_94 rfl (lv_at hl 0 rfl) ?_
      refine va_get (D := (dC, dI)) (ci := 1) (v := .int i_this_checks) (C := RX0) (T := TX0) (N := 10) hx hb hts hn_X0_addFormer_X0 hown hK hP 0 rfl rfl 1 (by decide) (hts _ fl_X0_addFormer_15) (fun _ h9 => h9) rfl dX0_addFormer_95 ?_
      refine lv_iconst (v := (1 : Int32)) hx hb dX0_addFormer_98 (by decide) ?_
      refine lv_iadd hx hb dX0_addFormer_99 ?_
      refine lv_topi (fun v5 ev5 => ?_)
      replace h := im_lt_u h v5 ev5
      obtain ⟨a100, b100, c100, d100, e100, h⟩ := im_cp_u h
      refine va_copyi hx hb (hml.trans hl.1.symm) hown (hts _ ac_X0_addFormer_ml91) (hts _ ac_X0_addFormer_na91) (hts _ ac_X0_addFormer_sa91) (hts _ ac_X0_addFormer_iy91) hK hP hD hS 3 2 0 0 rfl rfl rfl rfl rfl a100 b100 c100 d100 e100 (fun _ _ => rfl) (Nat.le_of_ble_eq_true rfl) (Nat.le_of_ble_eq_true rfl) dX0_addFormer_100 (fun H locs hP hD hS => ?_)
      obtain ⟨f6, ef6⟩ : ∃ g : Nat → Int32, g = va_cpy f1 f_this_locator (0 : Int32).toNatClampNeg (0 : Int32).toNatClampNeg v5.toNatClampNeg := ⟨_, rfl⟩
      replace h := h f6 ef6
      rw [← ef6] at hP hD
      have hP : va_P (dC, dI) vwCl [(a_this, .inr (1, [.int i_this_length, .int i_this_checks, .ref a_this_generator, .ref a_this_powers, .ref a_this_syndromes, .ref a_this_locator, .ref a_this_former, .ref a_this_next, .ref a_this_evaluator, .ref a_this_slope])), (a_this_former, .inl (cI, n_this_former, .inl f3)), (a_this_locator, .inl (cI, n_this_locator, .inl f6)), (a_this_next, .inl (cI, n_this_next, .inl f1))] H := hP
      have hD : va_D A [(a_this, .inr (1, [.int i_this_length, .int i_this_checks, .ref a_this_generator, .ref a_this_powers, .ref a_this_syndromes, .ref a_this_locator, .ref a_this_former, .ref a_this_next, .ref a_this_evaluator, .ref a_this_slope])), (a_this_former, .inl (cI, n_this_former, .inl f3)), (a_this_locator, .inl (cI, n_this_locator, .inl f6)), (a_this_next, .inl (cI, n_this_next, .inl f1))] := hD
      rw [eQ]
      exact W.vret hx hb hr (fun t ht hW => ⟨⟨(f3, f6, f1), rfl, Option.some.inj h, by rw [ht]; exact hP, va_K.moved hW.alike hK, hD⟩, hS.F ht⟩) hS.2.2 dX0_addFormer_103
    · refine lv_iload_n hx hb dX0_addFormer_39 rfl (lv_at hl 2 rfl) ?_
      refine lv_if_eq (tgt := 84) hx hb dX0_addFormer_40 (by decide) (fun c40 => ?_) (fun c40 => ?_)
      · replace h := im_t c40 h
        exact J4 f_this_former h _ _ _ hP hD hS (lv_sub hl [0] rfl)
      · replace h := im_f c40 h
        refine lv_iload_n hx hb dX0_addFormer_43 rfl (lv_at hl 1 rfl) ?_
        obtain ⟨v7, y44, h⟩ := im_b1_u h
        refine vp_callSi (W.runS (As := [.int x0]) (rest := []) ⟨hx, hb, hml, hown, hts⟩ (c_X1_inverse l x0 y44) (va_cwS 1 hts gX0_addFormer_X1_inverse rfl rfl rfl (by decide +kernel) ⟨Nat.le_of_ble_eq_true rfl, Nat.le_of_ble_eq_true rfl⟩) ⟨fun _ _ _ _ q => q, fun U hU hW => ⟨rfl, trivial⟩⟩ rfl rfl hl.1 rfl (lv_room (Nat.le_of_ble_eq_true rfl)) dX0_addFormer_44 ⟨Nat.zero_le _, Nat.zero_le _⟩) (fun w44 ew44 => ?_)
        have ew44 := ew44.symm
        subst ew44
        refine lv_istore_n (lv' := [(3, .int v7), (0, .ref a_this), (1, .int x0), (2, .int x1)]) hx hb dX0_addFormer_47 rfl hl (by decide) rfl (fun ls hl => ?_)
        refine lv_iconst (v := (0 : Int32)) hx hb dX0_addFormer_48 (by decide) ?_
        refine lv_istore (lv' := [(4, .int (0 : Int32)), (3, .int v7), (0, .ref a_this), (1, .int x0), (2, .int x1)]) hx hb dX0_addFormer_49 hl (by decide) rfl (fun ls hl => ?_)
        have Lp10 : ∀ (n : Nat) (v8 : Int32) (f9 : Nat → Int32), im_X0_addFormer_L51 i_this_checks K4 n_this_locator f_this_locator v7 n_this_former n v8 f9 = some r → ∀ (H : Heap) (locs : List Loc) (ls : Array Slot), va_P (dC, dI) vwCl [(a_this, .inr (1, [.int i_this_length, .int i_this_checks, .ref a_this_generator, .ref a_this_powers, .ref a_this_syndromes, .ref a_this_locator, .ref a_this_former, .ref a_this_next, .ref a_this_evaluator, .ref a_this_slope])), (a_this_former, .inl (cI, n_this_former, .inl f9)), (a_this_locator, .inl (cI, n_this_locator, .inl f_this_locator)), (a_this_next, .inl (cI, n_this_next, .inl f1))] H → va_D A [(a_this, .inr (1, [.int i_this_length, .int i_this_checks, .ref a_this_generator, .ref a_this_powers, .ref a_this_syndromes, .ref a_this_locator, .ref a_this_former, .ref a_this_next, .ref a_this_evaluator, .ref a_this_slope])), (a_this_former, .inl (cI, n_this_former, .inl f9)), (a_this_locator, .inl (cI, n_this_locator, .inl f_this_locator)), (a_this_next, .inl (cI, n_this_next, .inl f1))] → va_S A s.heap H locs → lv_has ls 5 [(0, .ref a_this), (3, .int v7), (4, .int v8)] → W p l e (headSpec wsX0_addFormer rm_X0_addFormer).room s m args below meth c H locs 0 0 Q (F0 m 51 ls []) := by
          intro n
          induction n with
          | zero => intro v8 f9 h; rw [im_X0_addFormer_L51] at h; cases h
          | succ n ih =>
            intro v8 f9 h H locs ls hP hD hS hl
            rw [im_X0_addFormer_L51] at h
            refine lv_iload hx hb dX0_addFormer_51 (lv_at hl 2 rfl) ?_
            refine lv_aload_n hx hb dX0_addFormer_53 rfl (lv_at hl 0 rfl) ?_
            refine va_get (D := (dC, dI)) (ci := 1) (v := .int i_this_checks) (C := RX0) (T := TX0) (N := 10) hx hb hts hn_X0_addFormer_X0 hown hK hP 0 rfl rfl 1 (by decide) (hts _ fl_X0_addFormer_15) (fun _ h9 => h9) rfl dX0_addFormer_54 ?_
            refine lv_icmp_gt (tgt := 84) hx hb dX0_addFormer_57 (by decide) (fun c57 => ?_) (fun c57 => ?_)
            · replace h := im_t c57 h
              exact J4 f9 h _ _ _ hP hD hS (lv_sub hl [0] rfl)
            · replace h := im_f c57 h
              refine lv_aload_n hx hb dX0_addFormer_60 rfl (lv_at hl 0 rfl) ?_
              refine va_get (D := (dC, dI)) (ci := 1) (v := .ref a_this_former) (C := RX0) (T := TX0) (N := 10) hx hb hts hn_X0_addFormer_X0 hown hK hP 0 rfl rfl 6 (by decide) (hts _ fl_X0_addFormer_31) (fun _ h9 => h9) rfl dX0_addFormer_61 ?_
              refine lv_iload hx hb dX0_addFormer_64 (lv_at hl 2 rfl) ?_
              refine lv_iload_n hx hb dX0_addFormer_66 rfl (lv_at hl 1 rfl) ?_
              refine lv_aload_n hx hb dX0_addFormer_67 rfl (lv_at hl 0 rfl) ?_
              refine va_get (D := (dC, dI)) (ci := 1) (v := .ref a_this_locator) (C := RX0) (T := TX0) (N := 10) hx hb hts hn_X0_addFormer_X0 hown hK hP 0 rfl rfl 5 (by decide) (hts _ fl_X0_addFormer_28) (fun _ h9 => h9) rfl dX0_addFormer_68 ?_
              refine lv_iload hx hb dX0_addFormer_71 (lv_at hl 2 rfl) ?_
              obtain ⟨q73, h⟩ := im_ld_u h
              refine va_iald hx hb hK hP 2 0 rfl rfl q73 dX0_addFormer_73 ?_
              refine lv_topi (fun v11 ev11 => ?_)
              replace h := h v11 ev11
              obtain ⟨v12, y74, h⟩ := im_b1_u h
              refine vp_callSi (W.runS (As := [.int v7, .int v11]) (rest := [.int v8, .ref a_this_former]) ⟨hx, hb, hml, hown, hts⟩ (c_X1_product l v7 v11 y74) (va_cwS 2 hts gX0_addFormer_X1_product rfl rfl rfl (by decide +kernel) ⟨Nat.le_of_ble_eq_true rfl, Nat.le_of_ble_eq_true rfl⟩) ⟨fun _ _ _ _ q => q, fun U hU hW => ⟨rfl, trivial⟩⟩ rfl rfl hl.1 rfl (lv_room (Nat.le_of_ble_eq_true rfl)) dX0_addFormer_74 ⟨Nat.zero_le _, Nat.zero_le _⟩) (fun w74 ew74 => ?_)
              have ew74 := ew74.symm
              subst ew74
              obtain ⟨q77, h⟩ := im_st_u h
              refine va_iast hx hb hK hP hD hS 1 0 rfl rfl q77 dX0_addFormer_77 (fun H locs hP hD hS => ?_)
              obtain ⟨f13, ef13⟩ : ∃ g : Nat → Int32, g = upd f9 v8.toNatClampNeg v12 := ⟨_, rfl⟩
              replace h := h f13 ef13
              rw [← ef13] at hP hD
              have hP : va_P (dC, dI) vwCl [(a_this, .inr (1, [.int i_this_length, .int i_this_checks, .ref a_this_generator, .ref a_this_powers, .ref a_this_syndromes, .ref a_this_locator, .ref a_this_former, .ref a_this_next, .ref a_this_evaluator, .ref a_this_slope])), (a_this_former, .inl (cI, n_this_former, .inl f13)), (a_this_locator, .inl (cI, n_this_locator, .inl f_this_locator)), (a_this_next, .inl (cI, n_this_next, .inl f1))] H := hP
              have hD : va_D A [(a_this, .inr (1, [.int i_this_length, .int i_this_checks, .ref a_this_generator, .ref a_this_powers, .ref a_this_syndromes, .ref a_this_locator, .ref a_this_former, .ref a_this_next, .ref a_this_evaluator, .ref a_this_slope])), (a_this_former, .inl (cI, n_this_former, .inl f13)), (a_this_locator, .inl (cI, n_this_locator, .inl f_this_locator)), (a_this_next, .inl (cI, n_this_next, .inl f1))] := hD
              obtain ⟨v14, ev14⟩ : ∃ y : Int32, y = (v8 + (1 : Int32)) := ⟨_, rfl⟩
              replace h := im_lt_u h v14 ev14
              refine lv_iinc (v := v14) (lv' := [(4, .int v14), (0, .ref a_this), (3, .int v7)]) hx hb dX0_addFormer_78 hl (k := 2) rfl (by rw [ev14]; rfl) (by decide) rfl (fun ls hl => ?_)
              refine lv_goto (tgt := 51) hx hb dX0_addFormer_81 (by decide) ?_
              exact ih v14 f13 h _ _ _ hP hD hS (lv_sub hl [1, 2, 0] rfl)
        exact Lp10 5000 (0 : Int32) f_this_former h _ _ _ hP hD hS (lv_sub hl [2, 1, 0] rfl)
  · have Lp17 : ∀ (n : Nat) (v15 : Int32) (f16 : Nat → Int32), im_X0_addFormer_L2 i_this_checks K2 n_this_locator f_this_locator n_this_former f_this_former x0 n_this_next n v15 f16 = some r → ∀ (H : Heap) (locs : List Loc) (ls : Array Slot), va_P (dC, dI) vwCl [(a_this, .inr (1, [.int i_this_length, .int i_this_checks, .ref a_this_generator, .ref a_this_powers, .ref a_this_syndromes, .ref a_this_locator, .ref a_this_former, .ref a_this_next, .ref a_this_evaluator, .ref a_this_slope])), (a_this_former, .inl (cI, n_this_former, .inl f_this_former)), (a_this_locator, .inl (cI, n_this_locator, .inl f_this_locator)), (a_this_next, .inl (cI, n_this_next, .inl f16))] H → va_D A [(a_this, .inr (1, [.int i_this_length, .int i_this_checks, .ref a_this_generator, .ref a_this_powers, .ref a_this_syndromes, .ref a_this_locator, .ref a_this_former, .ref a_this_next, .ref a_this_evaluator, .ref a_this_slope])), (a_this_former, .inl (cI, n_this_former, .inl f_this_former)), (a_this_locator, .inl (cI, n_this_locator, .inl f_this_locator)), (a_this_next, .inl (cI, n_this_next, .inl f16))] → va_S A s.heap H locs → lv_has ls 5 [(0, .ref a_this), (1, .int x0), (2, .int x1), (3, .int v15)] → W p l e (headSpec wsX0_addFormer rm_X0_addFormer).room s m args below meth c H locs 0 0 Q (F0 m 2 ls []) := by
      intro n
      induction n with
      | zero => intro v15 f16 h; rw [im_X0_addFormer_L2] at h; cases h
      | succ n ih =>
        intro v15 f16 h H locs ls hP hD hS hl
        rw [im_X0_addFormer_L2] at h
        refine lv_iload_n hx hb dX0_addFormer_2 rfl (lv_at hl 3 rfl) ?_
        refine lv_aload_n hx hb dX0_addFormer_3 rfl (lv_at hl 0 rfl) ?_
        refine va_get (D := (dC, dI)) (ci := 1) (v := .int i_this_checks) (C := RX0) (T := TX0) (N := 10) hx hb hts hn_X0_addFormer_X0 hown hK hP 0 rfl rfl 1 (by decide) (hts _ fl_X0_addFormer_15) (fun _ h9 => h9) rfl dX0_addFormer_4 ?_
        refine lv_icmp_gt (tgt := 39) hx hb dX0_addFormer_7 (by decide) (fun c7 => ?_) (fun c7 => ?_)
        · replace h := im_t c7 h
          exact J2 f16 h _ _ _ hP hD hS (lv_sub hl [0, 1, 2] rfl)
        · replace h := im_f c7 h
          refine lv_aload_n hx hb dX0_addFormer_10 rfl (lv_at hl 0 rfl) ?_
          refine va_get (D := (dC, dI)) (ci := 1) (v := .ref a_this_next) (C := RX0) (T := TX0) (N := 10) hx hb hts hn_X0_addFormer_X0 hown hK hP 0 rfl rfl 7 (by decide) (hts _ fl_X0_addFormer_34) (fun _ h9 => h9) rfl dX0_addFormer_11 ?_
          refine lv_iload_n hx hb dX0_addFormer_14 rfl (lv_at hl 3 rfl) ?_
          refine lv_aload_n hx hb dX0_addFormer_15 rfl (lv_at hl 0 rfl) ?_
          refine va_get (D := (dC, dI)) (ci := 1) (v := .ref a_this_locator) (C := RX0) (T := TX0) (N := 10) hx hb hts hn_X0_addFormer_X0 hown hK hP 0 rfl rfl 5 (by decide) (hts _ fl_X0_addFormer_28) (fun _ h9 => h9) rfl dX0_addFormer_16 ?_
          refine lv_iload_n hx hb dX0_addFormer_19 rfl (lv_at hl 3 rfl) ?_
          obtain ⟨q20, h⟩ := im_ld_u h
          refine va_iald hx hb hK hP 2 0 rfl rfl q20 dX0_addFormer_20 ?_
          refine lv_topi (fun v18 ev18 => ?_)
          replace h := h v18 ev18
          refine lv_iload_n hx hb dX0_addFormer_21 rfl (lv_at hl 1 rfl) ?_
          refine lv_aload_n hx hb dX0_addFormer_22 rfl (lv_at hl 0 rfl) ?_
          refine va_get (D := (dC, dI)) (ci := 1) (v := .ref a_this_former) (C := RX0) (T := TX0) (N := 10) hx hb hts hn_X0_addFormer_X0 hown hK hP 0 rfl rfl 6 (by decide) (hts _ fl_X0_addFormer_31) (fun _ h9 => h9) rfl dX0_addFormer_23 ?_
          refine lv_iload_n hx hb dX0_addFormer_26 rfl (lv_at hl 3 rfl) ?_
          obtain ⟨q27, h⟩ := im_ld_u h
          refine va_iald hx hb hK hP 1 0 rfl rfl q27 dX0_addFormer_27 ?_
          refine lv_topi (fun v19 ev19 => ?_)
          replace h := h v19 ev19
          obtain ⟨v20, y28, h⟩ := im_b1_u h
          refine vp_callSi (W.runS (As := [.int x0, .int v19]) (rest := [.int v18, .int v15, .ref a_this_next]) ⟨hx, hb, hml, hown, hts⟩ (c_X1_product l x0 v19 y28) (va_cwS 2 hts gX0_addFormer_X1_product rfl rfl rfl (by decide +kernel) ⟨Nat.le_of_ble_eq_true rfl, Nat.le_of_ble_eq_true rfl⟩) ⟨fun _ _ _ _ q => q, fun U hU hW => ⟨rfl, trivial⟩⟩ rfl rfl hl.1 rfl (lv_room (Nat.le_of_ble_eq_true rfl)) dX0_addFormer_28 ⟨Nat.zero_le _, Nat.zero_le _⟩) (fun w28 ew28 => ?_)
          have ew28 := ew28.symm
          subst ew28
          refine lv_ixor hx hb dX0_addFormer_31 ?_
          refine lv_topi (fun v21 ev21 => ?_)
          replace h := im_lt_u h v21 ev21
          obtain ⟨q32, h⟩ := im_st_u h
          refine va_iast hx hb hK hP hD hS 3 0 rfl rfl q32 dX0_addFormer_32 (fun H locs hP hD hS => ?_)
          obtain ⟨f22, ef22⟩ : ∃ g : Nat → Int32, g = upd f16 v15.toNatClampNeg v21 := ⟨_, rfl⟩
          replace h := h f22 ef22
          rw [← ef22] at hP hD
          have hP : va_P (dC, dI) vwCl [(a_this, .inr (1, [.int i_this_length, .int i_this_checks, .ref a_this_generator, .ref a_this_powers, .ref a_this_syndromes, .ref a_this_locator, .ref a_this_former, .ref a_this_next, .ref a_this_evaluator, .ref a_this_slope])), (a_this_former, .inl (cI, n_this_former, .inl f_this_former)), (a_this_locator, .inl (cI, n_this_locator, .inl f_this_locator)), (a_this_next, .inl (cI, n_this_next, .inl f22))] H := hP
          have hD : va_D A [(a_this, .inr (1, [.int i_this_length, .int i_this_checks, .ref a_this_generator, .ref a_this_powers, .ref a_this_syndromes, .ref a_this_locator, .ref a_this_former, .ref a_this_next, .ref a_this_evaluator, .ref a_this_slope])), (a_this_former, .inl (cI, n_this_former, .inl f_this_former)), (a_this_locator, .inl (cI, n_this_locator, .inl f_this_locator)), (a_this_next, .inl (cI, n_this_next, .inl f22))] := hD
          obtain ⟨v23, ev23⟩ : ∃ y : Int32, y = (v15 + (1 : Int32)) := ⟨_, rfl⟩
          replace h := im_lt_u h v23 ev23
          refine lv_iinc (v := v23) (lv' := [(3, .int v23), (0, .ref a_this), (1, .int x0), (2, .int x1)]) hx hb dX0_addFormer_33 hl (k := 3) rfl (by rw [ev23]; rfl) (by decide) rfl (fun ls hl => ?_)
          refine lv_goto (tgt := 2) hx hb dX0_addFormer_36 (by decide) ?_
          exact ih v23 f22 h _ _ _ hP hD hS (lv_sub hl [1, 2, 3, 0] rfl)
    exact Lp17 5000 (0 : Int32) f_this_next h _ _ _ hP hD hS (lv_sub hl [1, 2, 3, 0] rfl)
def im_X0_locateWrong_L23 (i_this_checks : Int32) (n_this_former : Nat) (n_this_locator : Nat) (n_this_syndromes : Nat) (f_this_syndromes : Nat → Int32) (n_this_next : Nat) (x0 : Int32) : Nat → Int32 → Int32 → (Nat → Int32) → (Nat → Int32) → (Nat → Int32) → Option ((Nat → Int32) × (Nat → Int32) × (Nat → Int32))
  | 0, _, _, _, _, _ => none
  | n + 1, v3, v4, f5, f6, f7 => if i_this_checks ≤ v4 then (some (f5, f6, f7)) else im_j4 (fun (v9 : Int32) (f10 : Nat → Int32) (f11 : Nat → Int32) (f12 : Nat → Int32) => im_lt (v4 + (1 : Int32)) (fun v14 => (im_X0_locateWrong_L23 i_this_checks n_this_former n_this_locator n_this_syndromes f_this_syndromes n_this_next x0 n v9 v14 f10 f11 f12))) (fun K13 => im_b1 (im_X0_multiplyFormerByX i_this_checks n_this_former f5) (fun f15 => im_b1 (im_X0_gapAt v4 n_this_locator n_this_syndromes f6 f_this_syndromes) (fun v16 => if v16 = 0 then (K13 v3 f15 f6 f7) else im_j1 (fun (v17 : Int32) => im_j4 (fun (v19 : Int32) (f20 : Nat → Int32) (f21 : Nat → Int32) (f22 : Nat → Int32) => (K13 v19 f20 f21 f22)) (fun K23 => im_b3 (im_X0_addFormer v16 v17 i_this_checks n_this_former n_this_locator n_this_next f15 f6 f7) (fun f24 f25 f26 => if v17 = 0 then (K23 v3 f24 f25 f26) else im_lt (v4 + (1 : Int32)) (fun v27 => im_lt (v27 + x0) (fun v28 => im_lt (v28 - v3) (fun v29 => (K23 v29 f24 f25 f26))))))) (fun K18 => im_lt ((2 : Int32) * v3) (fun v30 => im_lt (v4 + x0) (fun v31 => if v31 < v30 then (K18 (0 : Int32)) else (K18 (1 : Int32))))))))
def im_X0_locateWrong (x0 : Int32) (i_this_checks : Int32) (n_this_former : Nat) (n_this_locator : Nat) (n_this_next : Nat) (n_this_syndromes : Nat) (f_this_former : Nat → Int32) (f_this_locator : Nat → Int32) (f_this_next : Nat → Int32) (f_this_syndromes : Nat → Int32) : Option ((Nat → Int32) × (Nat → Int32) × (Nat → Int32)) := im_lt (i_this_checks + (1 : Int32)) (fun v1 => im_cp n_this_locator n_this_former f_this_locator f_this_former (0 : Int32) (0 : Int32) v1 (fun f2 => (im_X0_locateWrong_L23 i_this_checks n_this_former n_this_locator n_this_syndromes f_this_syndromes n_this_next x0 5000 x0 x0 f2 f_this_locator f_this_next)))
abbrev rm_X0_locateWrong : Room := { frames := 3, cells := 0, slots := 0, locals := 84 }
theorem hn_X0_locateWrong_X0 : ∀ w ∈ wsX00, w ∈ wsX0_locateWrong := by decide +kernel
theorem fl_X0_locateWrong_28 : Cond.fieldLink RX0 28 "BarCodes$CheckCode" "locator" "[I" ∈ wsX0_locateWrong := by decide +kernel
theorem fl_X0_locateWrong_31 : Cond.fieldLink RX0 31 "BarCodes$CheckCode" "former" "[I" ∈ wsX0_locateWrong := by decide +kernel
theorem fl_X0_locateWrong_15 : Cond.fieldLink RX0 15 "BarCodes$CheckCode" "checks" "I" ∈ wsX0_locateWrong := by decide +kernel
theorem ac_X0_locateWrong_ml91 : Cond.methodLink RX0 91 arraycopyName ∈ wsX0_locateWrong := by decide +kernel
theorem ac_X0_locateWrong_na91 : Cond.native arraycopyName ∈ wsX0_locateWrong := by decide +kernel
theorem ac_X0_locateWrong_sa91 : Cond.static arraycopyName ∈ wsX0_locateWrong := by decide +kernel
theorem ac_X0_locateWrong_iy91 : Cond.initialized "java/lang/System" ∈ wsX0_locateWrong := by decide +kernel
set_option maxHeartbeats 4000000 in
set_option maxRecDepth 100000 in
theorem c_X0_locateWrong (l : Launch) (dC : Nat → ClassId) (dI : Nat → Nat → Nat) (cI cJ cZ : ClassId) (sz : Nat) (a_this a_this_generator a_this_powers a_this_syndromes a_this_locator a_this_former a_this_next a_this_evaluator a_this_slope : Nat) (i_this_length i_this_checks : Int32) (n_this_former n_this_locator n_this_next n_this_syndromes : Nat) (f_this_former : Nat → Int32) (f_this_locator : Nat → Int32) (f_this_next : Nat → Int32) (f_this_syndromes : Nat → Int32) (x0 : Int32) {r : (Nat → Int32) × (Nat → Int32) × (Nat → Int32)} (h : im_X0_locateWrong x0 i_this_checks n_this_former n_this_locator n_this_next n_this_syndromes f_this_former f_this_locator f_this_next f_this_syndromes = some r) : Met l yX0_locateWrong wsX0_locateWrong rm_X0_locateWrong (va_Pc [.ref a_this, .int x0] (fun U => U.heap.size = sz ∧ va_P (dC, dI) vwCl [(a_this, .inr (1, [.int i_this_length, .int i_this_checks, .ref a_this_generator, .ref a_this_powers, .ref a_this_syndromes, .ref a_this_locator, .ref a_this_former, .ref a_this_next, .ref a_this_evaluator, .ref a_this_slope])), (a_this_former, .inl (cI, n_this_former, .inl f_this_former)), (a_this_locator, .inl (cI, n_this_locator, .inl f_this_locator)), (a_this_next, .inl (cI, n_this_next, .inl f_this_next)), (a_this_syndromes, .inl (cI, n_this_syndromes, .inl f_this_syndromes))] U.heap ∧ va_K (dC, dI) vwCl [(cI, .int), (cJ, .long), (cZ, .boolean)] U ∧ va_D (fun _ => True) [(a_this, .inr (1, [.int i_this_length, .int i_this_checks, .ref a_this_generator, .ref a_this_powers, .ref a_this_syndromes, .ref a_this_locator, .ref a_this_former, .ref a_this_next, .ref a_this_evaluator, .ref a_this_slope])), (a_this_former, .inl (cI, n_this_former, .inl f_this_former)), (a_this_locator, .inl (cI, n_this_locator, .inl f_this_locator)), (a_this_next, .inl (cI, n_this_next, .inl f_this_next)), (a_this_syndromes, .inl (cI, n_this_syndromes, .inl f_this_syndromes))])) (va_Qv (S := (Nat → Int32) × (Nat → Int32) × (Nat → Int32)) (fun u9 => u9 = r) (fun u9 t9 => va_P (dC, dI) vwCl [(a_this, .inr (1, [.int i_this_length, .int i_this_checks, .ref a_this_generator, .ref a_this_powers, .ref a_this_syndromes, .ref a_this_locator, .ref a_this_former, .ref a_this_next, .ref a_this_evaluator, .ref a_this_slope])), (a_this_former, .inl (cI, n_this_former, .inl (u9.1))), (a_this_locator, .inl (cI, n_this_locator, .inl (u9.2.1))), (a_this_next, .inl (cI, n_this_next, .inl (u9.2.2))), (a_this_syndromes, .inl (cI, n_this_syndromes, .inl f_this_syndromes))] t9.heap ∧ va_K (dC, dI) vwCl [(cI, .int), (cJ, .long), (cZ, .boolean)] t9 ∧ va_D (va_A [(a_this, .inr (1, [.int i_this_length, .int i_this_checks, .ref a_this_generator, .ref a_this_powers, .ref a_this_syndromes, .ref a_this_locator, .ref a_this_former, .ref a_this_next, .ref a_this_evaluator, .ref a_this_slope])), (a_this_former, .inl (cI, n_this_former, .inl f_this_former)), (a_this_locator, .inl (cI, n_this_locator, .inl f_this_locator)), (a_this_next, .inl (cI, n_this_next, .inl f_this_next)), (a_this_syndromes, .inl (cI, n_this_syndromes, .inl f_this_syndromes))] sz) [(a_this, .inr (1, [.int i_this_length, .int i_this_checks, .ref a_this_generator, .ref a_this_powers, .ref a_this_syndromes, .ref a_this_locator, .ref a_this_former, .ref a_this_next, .ref a_this_evaluator, .ref a_this_slope])), (a_this_former, .inl (cI, n_this_former, .inl (u9.1))), (a_this_locator, .inl (cI, n_this_locator, .inl (u9.2.1))), (a_this_next, .inl (cI, n_this_next, .inl (u9.2.2))), (a_this_syndromes, .inl (cI, n_this_syndromes, .inl f_this_syndromes))]) (va_A [(a_this, .inr (1, [.int i_this_length, .int i_this_checks, .ref a_this_generator, .ref a_this_powers, .ref a_this_syndromes, .ref a_this_locator, .ref a_this_former, .ref a_this_next, .ref a_this_evaluator, .ref a_this_slope])), (a_this_former, .inl (cI, n_this_former, .inl f_this_former)), (a_this_locator, .inl (cI, n_this_locator, .inl f_this_locator)), (a_this_next, .inl (cI, n_this_next, .inl f_this_next)), (a_this_syndromes, .inl (cI, n_this_syndromes, .inl f_this_syndromes))] sz)) 0 0 (va_A [(a_this, .inr (1, [.int i_this_length, .int i_this_checks, .ref a_this_generator, .ref a_this_powers, .ref a_this_syndromes, .ref a_this_locator, .ref a_this_former, .ref a_this_next, .ref a_this_evaluator, .ref a_this_slope])), (a_this_former, .inl (cI, n_this_former, .inl f_this_former)), (a_this_locator, .inl (cI, n_this_locator, .inl f_this_locator)), (a_this_next, .inl (cI, n_this_next, .inl f_this_next)), (a_this_syndromes, .inl (cI, n_this_syndromes, .inl f_this_syndromes))] sz) := by
  refine Met.ofW (cc := cX0_locateWrong) (maxL := 6) (ret := none) (by decide) rfl ?_
  intro p e s m args below meth c s₁ B hml hv
  obtain ⟨eargs, hsz, hP, hK, hD0⟩ := hv
  have hx := B.exec
  have hb := B.bytes
  have hr := B.returns
  have hts := atoms_spec (ws := wsX0_locateWrong) B.pre
  have hown : s.vm.findClass RX0 = some m.cls := findClass_of_methodNamed B.named
  have hlocks := B.notSynchronized
  refine im_Q (fun Q eQ => ?_)
  subst hsz
  have hD := hD0.self (sz := s.heap.size)
  generalize hAe : va_A [(a_this, .inr (1, [.int i_this_length, .int i_this_checks, .ref a_this_generator, .ref a_this_powers, .ref a_this_syndromes, .ref a_this_locator, .ref a_this_former, .ref a_this_next, .ref a_this_evaluator, .ref a_this_slope])), (a_this_former, .inl (cI, n_this_former, .inl f_this_former)), (a_this_locator, .inl (cI, n_this_locator, .inl f_this_locator)), (a_this_next, .inl (cI, n_this_next, .inl f_this_next)), (a_this_syndromes, .inl (cI, n_this_syndromes, .inl f_this_syndromes))] s.heap.size = A at hD eQ
  have hA : ∀ q : Nat, s.heap.size ≤ q → A q := fun q h => by rw [← hAe]; exact Or.inr h
  have hS : va_S A s.heap s.heap [] := va_S.rf
  have hl := lv_entry [.ref a_this, .int x0] (n := 6) (Nat.le_of_ble_eq_true rfl)
  rw [show entryFrame m args 6 = entryFrame m ([.ref a_this, .int x0] : List Value).toArray 6 by rw [eargs], lg_entry_eq]
  generalize (lg_sl ([.ref a_this, .int x0]) ++ List.replicate (6 - (lg_sl ([.ref a_this, .int x0])).length) Slot.unset).toArray = ls at hl ⊢
  have hl : lv_has ls 6 [(0, .ref a_this), (1, .int x0)] := hl
  rw [im_X0_locateWrong] at h
  refine lv_aload_n hx hb dX0_locateWrong_0 rfl (lv_at hl 0 rfl) ?_
  refine va_get (D := (dC, dI)) (ci := 1) (v := .ref a_this_locator) (C := RX0) (T := TX0) (N := 10) hx hb hts hn_X0_locateWrong_X0 hown hK hP 0 rfl rfl 5 (by decide) (hts _ fl_X0_locateWrong_28) (fun _ h9 => h9) rfl dX0_locateWrong_1 ?_
  refine lv_iconst (v := (0 : Int32)) hx hb dX0_locateWrong_4 (by decide) ?_
  refine lv_aload_n hx hb dX0_locateWrong_5 rfl (lv_at hl 0 rfl) ?_
  refine va_get (D := (dC, dI)) (ci := 1) (v := .ref a_this_former) (C := RX0) (T := TX0) (N := 10) hx hb hts hn_X0_locateWrong_X0 hown hK hP 0 rfl rfl 6 (by decide) (hts _ fl_X0_locateWrong_31) (fun _ h9 => h9) rfl dX0_locateWrong_6 ?_
  refine lv_iconst (v := (0 : Int32)) hx hb dX0_locateWrong_9 (by decide) ?_
  refine lv_aload_n hx hb dX0_locateWrong_10 rfl (lv_at hl 0 rfl) ?_
  refine va_get (D := (dC, dI)) (ci := 1) (v := .int i_this_checks) (C := RX0) (T := TX0) (N := 10) hx hb hts hn_X0_locateWrong_X0 hown hK hP 0 rfl rfl 1 (by decide) (hts _ fl_X0_locateWrong_15) (fun _ h9 => h9) rfl dX0_locateWrong_11 ?_
  refine lv_iconst (v := (1 : Int32)) hx hb dX0_locateWrong_14 (by decide) ?_
  refine lv_iadd hx hb dX0_locateWrong_15 ?_
  refine lv_topi (fun v1 ev1 => ?_)
  replace h := im_lt_u h v1 ev1
  obtain ⟨a16, b16, c16, d16, e16, h⟩ := im_cp_u h
  refine va_copyi hx hb (hml.trans hl.1.symm) hown (hts _ ac_X0_locateWrong_ml91) (hts _ ac_X0_locateWrong_na91) (hts _ ac_X0_locateWrong_sa91) (hts _ ac_X0_locateWrong_iy91) hK hP hD hS 2 1 0 0 rfl rfl rfl rfl rfl a16 b16 c16 d16 e16 (fun _ _ => rfl) (Nat.le_of_ble_eq_true rfl) (Nat.le_of_ble_eq_true rfl) dX0_locateWrong_16 (fun H locs hP hD hS => ?_)
  obtain ⟨f2, ef2⟩ : ∃ g : Nat → Int32, g = va_cpy f_this_locator f_this_former (0 : Int32).toNatClampNeg (0 : Int32).toNatClampNeg v1.toNatClampNeg := ⟨_, rfl⟩
  replace h := h f2 ef2
  rw [← ef2] at hP hD
  have hP : va_P (dC, dI) vwCl [(a_this, .inr (1, [.int i_this_length, .int i_this_checks, .ref a_this_generator, .ref a_this_powers, .ref a_this_syndromes, .ref a_this_locator, .ref a_this_former, .ref a_this_next, .ref a_this_evaluator, .ref a_this_slope])), (a_this_former, .inl (cI, n_this_former, .inl f2)), (a_this_locator, .inl (cI, n_this_locator, .inl f_this_locator)), (a_this_next, .inl (cI, n_this_next, .inl f_this_next)), (a_this_syndromes, .inl (cI, n_this_syndromes, .inl f_this_syndromes))] H := hP
  have hD : va_D A [(a_this, .inr (1, [.int i_this_length, .int i_this_checks, .ref a_this_generator, .ref a_this_powers, .ref a_this_syndromes, .ref a_this_locator, .ref a_this_former, .ref a_this_next, .ref a_this_evaluator, .ref a_this_slope])), (a_this_former, .inl (cI, n_this_former, .inl f2)), (a_this_locator, .inl (cI, n_this_locator, .inl f_this_locator)), (a_this_next, .inl (cI, n_this_next, .inl f_this_next)), (a_this_syndromes, .inl (cI, n_this_syndromes, .inl f_this_syndromes))] := hD
  refine lv_iload_n hx hb dX0_locateWrong_19 rfl (lv_at hl 1 rfl) ?_
  refine lv_istore_n (lv' := [(2, .int x0), (0, .ref a_this), (1, .int x0)]) hx hb dX0_locateWrong_20 rfl hl (by decide) rfl (fun ls hl => ?_)
  refine lv_iload_n hx hb dX0_locateWrong_21 rfl (lv_at hl 2 rfl) ?_
  refine lv_istore_n (lv' := [(3, .int x0), (2, .int x0), (0, .ref a_this), (1, .int x0)]) hx hb dX0_locateWrong_22 rfl hl (by decide) rfl (fun ls hl => ?_)
  have Lp8 : ∀ (n : Nat) (v3 : Int32) (v4 : Int32) (f5 : Nat → Int32) (f6 : Nat → Int32) (f7 : Nat → Int32), im_X0_locateWrong_L23 i_this_checks n_this_former n_this_locator n_this_syndromes f_this_syndromes n_this_next x0 n v3 v4 f5 f6 f7 = some r → ∀ (H : Heap) (locs : List Loc) (ls : Array Slot), va_P (dC, dI) vwCl [(a_this, .inr (1, [.int i_this_length, .int i_this_checks, .ref a_this_generator, .ref a_this_powers, .ref a_this_syndromes, .ref a_this_locator, .ref a_this_former, .ref a_this_next, .ref a_this_evaluator, .ref a_this_slope])), (a_this_former, .inl (cI, n_this_former, .inl f5)), (a_this_locator, .inl (cI, n_this_locator, .inl f6)), (a_this_next, .inl (cI, n_this_next, .inl f7)), (a_this_syndromes, .inl (cI, n_this_syndromes, .inl f_this_syndromes))] H → va_D A [(a_this, .inr (1, [.int i_this_length, .int i_this_checks, .ref a_this_generator, .ref a_this_powers, .ref a_this_syndromes, .ref a_this_locator, .ref a_this_former, .ref a_this_next, .ref a_this_evaluator, .ref a_this_slope])), (a_this_former, .inl (cI, n_this_former, .inl f5)), (a_this_locator, .inl (cI, n_this_locator, .inl f6)), (a_this_next, .inl (cI, n_this_next, .inl f7)), (a_this_syndromes, .inl (cI, n_this_syndromes, .inl f_this_syndromes))] → va_S A s.heap H locs → lv_has ls 6 [(0, .ref a_this), (1, .int x0), (2, .int v3), (3, .int v4)] → W p l e (headSpec wsX0_locateWrong rm_X0_locateWrong).room s m args below meth c H locs 0 0 Q (F0 m 23 ls []) := by
    intro n
    induction n with
    | zero => intro v3 v4 f5 f6 f7 h; rw [im_X0_locateWrong_L23] at h; cases h
    | succ n ih =>
      intro v3 v4 f5 f6 f7 h H locs ls hP hD hS hl
      rw [im_X0_locateWrong_L23] at h
      refine lv_iload_n hx hb dX0_locateWrong_23 rfl (lv_at hl 3 rfl) ?_
      refine lv_aload_n hx hb dX0_locateWrong_24 rfl (lv_at hl 0 rfl) ?_
      refine va_get (D := (dC, dI)) (ci := 1) (v := .int i_this_checks) (C := RX0) (T := TX0) (N := 10) hx hb hts hn_X0_locateWrong_X0 hown hK hP 0 rfl rfl 1 (by decide) (hts _ fl_X0_locateWrong_15) (fun _ h9 => h9) rfl dX0_locateWrong_25 ?_
      refine lv_icmp_ge (tgt := 94) hx hb dX0_locateWrong_28 (by decide) (fun c28 => ?_) (fun c28 => ?_)
      · replace h := im_t c28 h
        rw [eQ]
        exact W.vret hx hb hr (fun t ht hW => ⟨⟨(f5, f6, f7), rfl, Option.some.inj h, by rw [ht]; exact hP, va_K.moved hW.alike hK, hD⟩, hS.F ht⟩) hS.2.2 dX0_locateWrong_94
      · replace h := im_f c28 h
        refine im_j4_u (P := fun v9 f10 f11 f12 => ∀ (H : Heap) (locs : List Loc) (ls : Array Slot), va_P (dC, dI) vwCl [(a_this, .inr (1, [.int i_this_length, .int i_this_checks, .ref a_this_generator, .ref a_this_powers, .ref a_this_syndromes, .ref a_this_locator, .ref a_this_former, .ref a_this_next, .ref a_this_evaluator, .ref a_this_slope])), (a_this_former, .inl (cI, n_this_former, .inl f10)), (a_this_locator, .inl (cI, n_this_locator, .inl f11)), (a_this_next, .inl (cI, n_this_next, .inl f12)), (a_this_syndromes, .inl (cI, n_this_syndromes, .inl f_this_syndromes))] H → va_D A [(a_this, .inr (1, [.int i_this_length, .int i_this_checks, .ref a_this_generator, .ref a_this_powers, .ref a_this_syndromes, .ref a_this_locator, .ref a_this_former, .ref a_this_next, .ref a_this_evaluator, .ref a_this_slope])), (a_this_former, .inl (cI, n_this_former, .inl f10)), (a_this_locator, .inl (cI, n_this_locator, .inl f11)), (a_this_next, .inl (cI, n_this_next, .inl f12)), (a_this_syndromes, .inl (cI, n_this_syndromes, .inl f_this_syndromes))] → va_S A s.heap H locs → lv_has ls 6 [(0, .ref a_this), (1, .int x0), (2, .int v9), (3, .int v4)] → W p l e (headSpec wsX0_locateWrong rm_X0_locateWrong).room s m args below meth c H locs 0 0 Q (F0 m 88 ls [])) h (fun v9 f10 f11 f12 h H locs ls hP hD hS hl => ?_) (fun K13 J13 h => ?_)
        · obtain ⟨v14, ev14⟩ : ∃ y : Int32, y = (v4 + (1 : Int32)) := ⟨_, rfl⟩
          replace h := im_lt_u h v14 ev14
          refine lv_iinc (v := v14) (lv' := [(3, .int v14), (0, .ref a_this), (1, .int x0), (2, .int v9)]) hx hb dX0_locateWrong_88 hl (k := 3) rfl (by rw [ev14]; rfl) (by decide) rfl (fun ls hl => ?_)
          refine lv_goto (tgt := 23) hx hb dX0_locateWrong_91 (by decide) ?_
          exact ih v9 v14 f10 f11 f12 h _ _ _ hP hD hS (lv_sub hl [1, 2, 3, 0] rfl)
        · refine lv_aload_n hx hb dX0_locateWrong_31 rfl (lv_at hl 0 rfl) ?_
          obtain ⟨f15, y32, h⟩ := im_b1_u h
          have hPc := hP.sub (ws' := [(a_this, .inr (1, [.int i_this_length, .int i_this_checks, .ref a_this_generator, .ref a_this_powers, .ref a_this_syndromes, .ref a_this_locator, .ref a_this_former, .ref a_this_next, .ref a_this_evaluator, .ref a_this_slope])), (a_this_former, .inl (cI, n_this_former, .inl f5))]) [0, 1] rfl
          have hDc := hD.sub (ws' := [(a_this, .inr (1, [.int i_this_length, .int i_this_checks, .ref a_this_generator, .ref a_this_powers, .ref a_this_syndromes, .ref a_this_locator, .ref a_this_former, .ref a_this_next, .ref a_this_evaluator, .ref a_this_slope])), (a_this_former, .inl (cI, n_this_former, .inl f5))]) [0, 1] (by decide) rfl
          have hFc := va_free (wc := [(a_this, .inr (1, [.int i_this_length, .int i_this_checks, .ref a_this_generator, .ref a_this_powers, .ref a_this_syndromes, .ref a_this_locator, .ref a_this_former, .ref a_this_next, .ref a_this_evaluator, .ref a_this_slope])), (a_this_former, .inl (cI, n_this_former, .inl f5))]) hD hS hA [0, 1] rfl
          refine va_callv (va_runV (As := []) (rest := []) ⟨hx, hb, hml, hown, hts⟩ (c_X0_multiplyFormerByX l dC dI cI cJ cZ H.size a_this a_this_generator a_this_powers a_this_syndromes a_this_locator a_this_former a_this_next a_this_evaluator a_this_slope i_this_length i_this_checks n_this_former f5 y32) (cwV 0 hts gX0_locateWrong_X0_multiplyFormerByX rfl rfl rfl (by decide +kernel) ⟨Nat.le_of_ble_eq_true rfl, Nat.le_of_ble_eq_true rfl⟩) ⟨fun a U g mk q => by obtain ⟨q0, q1, qP, qK, qD⟩ := q; exact ⟨q0, q1, qP, va_K.moved (u := U) (U := U.calling g mk a) (Vm.Alike.refl U.vm) qK, qD⟩, va_recv hK hPc (ci := 1) (q0 := 0) rfl rfl, fun U hU hW => ⟨rfl, by rw [hU], by rw [hU]; exact hPc, va_K.moved hW.alike hK, hDc.weaken (fun _ _ _ _ => trivial)⟩⟩ rfl rfl hl.1 rfl (lv_room (Nat.le_of_ble_eq_true rfl)) dX0_locateWrong_32 ⟨Nat.zero_le _, Nat.zero_le _⟩) hS (fun q _ h => hFc q h) hFc (fun u9 t9 H1 locs ht9 hvm9 hw9 hB9 hz9 hk9 hS => ?_)
          obtain ⟨hP1, hK1, hD1⟩ := hB9
          rw [ht9] at hP1
          have hw9 := hw9.symm
          subst hw9
          obtain ⟨hP, hD⟩ := va_join (wr := [(a_this_locator, .inl (cI, n_this_locator, .inl f6)), (a_this_next, .inl (cI, n_this_next, .inl f7)), (a_this_syndromes, .inl (cI, n_this_syndromes, .inl f_this_syndromes))]) (w1 := [(a_this, .inr (1, [.int i_this_length, .int i_this_checks, .ref a_this_generator, .ref a_this_powers, .ref a_this_syndromes, .ref a_this_locator, .ref a_this_former, .ref a_this_next, .ref a_this_evaluator, .ref a_this_slope])), (a_this_former, .inl (cI, n_this_former, .inl f15))]) hP hD [0, 1] [2, 3, 4] rfl rfl (by decide) (by decide) hk9 hFc hP1 hD1
          generalize H1 = H at hP hS ⊢
          have hP := hP.sub (ws' := [(a_this, .inr (1, [.int i_this_length, .int i_this_checks, .ref a_this_generator, .ref a_this_powers, .ref a_this_syndromes, .ref a_this_locator, .ref a_this_former, .ref a_this_next, .ref a_this_evaluator, .ref a_this_slope])), (a_this_former, .inl (cI, n_this_former, .inl f15)), (a_this_locator, .inl (cI, n_this_locator, .inl f6)), (a_this_next, .inl (cI, n_this_next, .inl f7)), (a_this_syndromes, .inl (cI, n_this_syndromes, .inl f_this_syndromes))]) [3, 4, 0, 1, 2] rfl
          have hD := hD.sub (ws' := [(a_this, .inr (1, [.int i_this_length, .int i_this_checks, .ref a_this_generator, .ref a_this_powers, .ref a_this_syndromes, .ref a_this_locator, .ref a_this_former, .ref a_this_next, .ref a_this_evaluator, .ref a_this_slope])), (a_this_former, .inl (cI, n_this_former, .inl f15)), (a_this_locator, .inl (cI, n_this_locator, .inl f6)), (a_this_next, .inl (cI, n_this_next, .inl f7)), (a_this_syndromes, .inl (cI, n_this_syndromes, .inl f_this_syndromes))]) [3, 4, 0, 1, 2] (by decide) rfl
          refine lv_aload_n hx hb dX0_locateWrong_35 rfl (lv_at hl 0 rfl) ?_
          refine lv_iload_n hx hb dX0_locateWrong_36 rfl (lv_at hl 3 rfl) ?_
          obtain ⟨v16, y37, h⟩ := im_b1_u h
          have hPc := hP.sub (ws' := [(a_this, .inr (1, [.int i_this_length, .int i_this_checks, .ref a_this_generator, .ref a_this_powers, .ref a_this_syndromes, .ref a_this_locator, .ref a_this_former, .ref a_this_next, .ref a_this_evaluator, .ref a_this_slope])), (a_this_locator, .inl (cI, n_this_locator, .inl f6)), (a_this_syndromes, .inl (cI, n_this_syndromes, .inl f_this_syndromes))]) [0, 2, 4] rfl
          refine vp_callSi (W.runV (As := [.int v4]) (rest := []) ⟨hx, hb, hml, hown, hts⟩ (c_X0_gapAt l dC dI cI cJ cZ a_this a_this_generator a_this_powers a_this_syndromes a_this_locator a_this_former a_this_next a_this_evaluator a_this_slope i_this_length i_this_checks n_this_locator n_this_syndromes f6 f_this_syndromes v4 y37) (cwV 1 hts gX0_locateWrong_X0_gapAt rfl rfl rfl (by decide +kernel) ⟨Nat.le_of_ble_eq_true rfl, Nat.le_of_ble_eq_true rfl⟩) ⟨fun a U g mk q => by obtain ⟨q0, qP, qK⟩ := q; exact ⟨q0, qP, va_K.moved (u := U) (U := U.calling g mk a) (Vm.Alike.refl U.vm) qK⟩, va_recv hK hPc (ci := 1) (q0 := 0) rfl rfl, fun U hU hW => ⟨rfl, by rw [hU]; exact hPc, va_K.moved hW.alike hK⟩⟩ rfl rfl hl.1 rfl (lv_room (Nat.le_of_ble_eq_true rfl)) dX0_locateWrong_37 ⟨Nat.zero_le _, Nat.zero_le _⟩) (fun w37 ew37 => ?_)
          have ew37 := ew37.symm
          subst ew37
          refine lv_istore (lv' := [(4, .int v16), (0, .ref a_this), (1, .int x0), (2, .int v3), (3, .int v4)]) hx hb dX0_locateWrong_40 hl (by decide) rfl (fun ls hl => ?_)
          refine lv_iload hx hb dX0_locateWrong_42 (lv_at hl 0 rfl) ?_
          refine lv_if_eq (tgt := 88) hx hb dX0_locateWrong_44 (by decide) (fun c44 => ?_) (fun c44 => ?_)
          · replace h := im_t c44 h
            exact J13 v3 f15 f6 f7 h _ _ _ hP hD hS (lv_sub hl [1, 2, 3, 4] rfl)
          · replace h := im_f c44 h
            refine im_j1_u (P := fun v17 => ∀ (H : Heap) (locs : List Loc) (ls : Array Slot), va_P (dC, dI) vwCl [(a_this, .inr (1, [.int i_this_length, .int i_this_checks, .ref a_this_generator, .ref a_this_powers, .ref a_this_syndromes, .ref a_this_locator, .ref a_this_former, .ref a_this_next, .ref a_this_evaluator, .ref a_this_slope])), (a_this_former, .inl (cI, n_this_former, .inl f15)), (a_this_locator, .inl (cI, n_this_locator, .inl f6)), (a_this_next, .inl (cI, n_this_next, .inl f7)), (a_this_syndromes, .inl (cI, n_this_syndromes, .inl f_this_syndromes))] H → va_D A [(a_this, .inr (1, [.int i_this_length, .int i_this_checks, .ref a_this_generator, .ref a_this_powers, .ref a_this_syndromes, .ref a_this_locator, .ref a_this_former, .ref a_this_next, .ref a_this_evaluator, .ref a_this_slope])), (a_this_former, .inl (cI, n_this_former, .inl f15)), (a_this_locator, .inl (cI, n_this_locator, .inl f6)), (a_this_next, .inl (cI, n_this_next, .inl f7)), (a_this_syndromes, .inl (cI, n_this_syndromes, .inl f_this_syndromes))] → va_S A s.heap H locs → lv_has ls 6 [(0, .ref a_this), (1, .int x0), (2, .int v3), (3, .int v4), (4, .int v16)] → W p l e (headSpec wsX0_locateWrong rm_X0_locateWrong).room s m args below meth c H locs 0 0 Q (F0 m 61 ls [.int v17])) h (fun v17 h H locs ls hP hD hS hl => ?_) (fun K18 J18 h => ?_)
            · refine im_j4_u (P := fun v19 f20 f21 f22 => ∀ (H : Heap) (locs : List Loc) (ls : Array Slot), va_P (dC, dI) vwCl [(a_this, .inr (1, [.int i_this_length, .int i_this_checks, .ref a_this_generator, .ref a_this_powers, .ref a_this_syndromes, .ref a_this_locator, .ref a_this_former, .ref a_this_next, .ref a_this_evaluator, .ref a_this_slope])), (a_this_former, .inl (cI, n_this_former, .inl f20)), (a_this_locator, .inl (cI, n_this_locator, .inl f21)), (a_this_next, .inl (cI, n_this_next, .inl f22)), (a_this_syndromes, .inl (cI, n_this_syndromes, .inl f_this_syndromes))] H → va_D A [(a_this, .inr (1, [.int i_this_length, .int i_this_checks, .ref a_this_generator, .ref a_this_powers, .ref a_this_syndromes, .ref a_this_locator, .ref a_this_former, .ref a_this_next, .ref a_this_evaluator, .ref a_this_slope])), (a_this_former, .inl (cI, n_this_former, .inl f20)), (a_this_locator, .inl (cI, n_this_locator, .inl f21)), (a_this_next, .inl (cI, n_this_next, .inl f22)), (a_this_syndromes, .inl (cI, n_this_syndromes, .inl f_this_syndromes))] → va_S A s.heap H locs → lv_has ls 6 [(0, .ref a_this), (1, .int x0), (3, .int v4)] → W p l e (headSpec wsX0_locateWrong rm_X0_locateWrong).room s m args below meth c H locs 0 0 Q (F0 m 87 ls [.int v19])) h (fun v19 f20 f21 f22 h H locs ls hP hD hS hl => ?_) (fun K23 J23 h => ?_)
              · refine lv_istore_n (lv' := [(2, .int v19), (0, .ref a_this), (1, .int x0), (3, .int v4)]) hx hb dX0_locateWrong_87 rfl hl (by decide) rfl (fun ls hl => ?_)
                exact J13 v19 f20 f21 f22 h _ _ _ hP hD hS (lv_sub hl [1, 2, 0, 3] rfl)
              · refine lv_istore (lv' := [(5, .int v17), (0, .ref a_this), (1, .int x0), (2, .int v3), (3, .int v4), (4, .int v16)]) hx hb dX0_locateWrong_61 hl (by decide) rfl (fun ls hl => ?_)
                refine lv_aload_n hx hb dX0_locateWrong_63 rfl (lv_at hl 1 rfl) ?_
                refine lv_iload hx hb dX0_locateWrong_64 (lv_at hl 5 rfl) ?_
                refine lv_iload hx hb dX0_locateWrong_66 (lv_at hl 0 rfl) ?_
                obtain ⟨f24, f25, f26, y68, h⟩ := im_b3_u h
                have hPc := hP.sub (ws' := [(a_this, .inr (1, [.int i_this_length, .int i_this_checks, .ref a_this_generator, .ref a_this_powers, .ref a_this_syndromes, .ref a_this_locator, .ref a_this_former, .ref a_this_next, .ref a_this_evaluator, .ref a_this_slope])), (a_this_former, .inl (cI, n_this_former, .inl f15)), (a_this_locator, .inl (cI, n_this_locator, .inl f6)), (a_this_next, .inl (cI, n_this_next, .inl f7))]) [0, 1, 2, 3] rfl
                have hDc := hD.sub (ws' := [(a_this, .inr (1, [.int i_this_length, .int i_this_checks, .ref a_this_generator, .ref a_this_powers, .ref a_this_syndromes, .ref a_this_locator, .ref a_this_former, .ref a_this_next, .ref a_this_evaluator, .ref a_this_slope])), (a_this_former, .inl (cI, n_this_former, .inl f15)), (a_this_locator, .inl (cI, n_this_locator, .inl f6)), (a_this_next, .inl (cI, n_this_next, .inl f7))]) [0, 1, 2, 3] (by decide) rfl
                have hFc := va_free (wc := [(a_this, .inr (1, [.int i_this_length, .int i_this_checks, .ref a_this_generator, .ref a_this_powers, .ref a_this_syndromes, .ref a_this_locator, .ref a_this_former, .ref a_this_next, .ref a_this_evaluator, .ref a_this_slope])), (a_this_former, .inl (cI, n_this_former, .inl f15)), (a_this_locator, .inl (cI, n_this_locator, .inl f6)), (a_this_next, .inl (cI, n_this_next, .inl f7))]) hD hS hA [0, 1, 2, 3] rfl
                refine va_callv (va_runV (As := [.int v16, .int v17]) (rest := []) ⟨hx, hb, hml, hown, hts⟩ (c_X0_addFormer l dC dI cI cJ cZ H.size a_this a_this_generator a_this_powers a_this_syndromes a_this_locator a_this_former a_this_next a_this_evaluator a_this_slope i_this_length i_this_checks n_this_former n_this_locator n_this_next f15 f6 f7 v16 v17 y68) (cwV 2 hts gX0_locateWrong_X0_addFormer rfl rfl rfl (by decide +kernel) ⟨Nat.le_of_ble_eq_true rfl, Nat.le_of_ble_eq_true rfl⟩) ⟨fun a U g mk q => by obtain ⟨q0, q1, qP, qK, qD⟩ := q; exact ⟨q0, q1, qP, va_K.moved (u := U) (U := U.calling g mk a) (Vm.Alike.refl U.vm) qK, qD⟩, va_recv hK hPc (ci := 1) (q0 := 0) rfl rfl, fun U hU hW => ⟨rfl, by rw [hU], by rw [hU]; exact hPc, va_K.moved hW.alike hK, hDc.weaken (fun _ _ _ _ => trivial)⟩⟩ rfl rfl hl.1 rfl (lv_room (Nat.le_of_ble_eq_true rfl)) dX0_locateWrong_68 ⟨Nat.zero_le _, Nat.zero_le _⟩) hS (fun q _ h => hFc q h) hFc (fun u9 t9 H1 locs ht9 hvm9 hw9 hB9 hz9 hk9 hS => ?_)
                obtain ⟨hP1, hK1, hD1⟩ := hB9
                rw [ht9] at hP1
                have hw9 := hw9.symm
                subst hw9
                obtain ⟨hP, hD⟩ := va_join (wr := [(a_this_syndromes, .inl (cI, n_this_syndromes, .inl f_this_syndromes))]) (w1 := [(a_this, .inr (1, [.int i_this_length, .int i_this_checks, .ref a_this_generator, .ref a_this_powers, .ref a_this_syndromes, .ref a_this_locator, .ref a_this_former, .ref a_this_next, .ref a_this_evaluator, .ref a_this_slope])), (a_this_former, .inl (cI, n_this_former, .inl f24)), (a_this_locator, .inl (cI, n_this_locator, .inl f25)), (a_this_next, .inl (cI, n_this_next, .inl f26))]) hP hD [0, 1, 2, 3] [4] rfl rfl (by decide) (by decide) hk9 hFc hP1 hD1
                generalize H1 = H at hP hS ⊢
                have hP := hP.sub (ws' := [(a_this, .inr (1, [.int i_this_length, .int i_this_checks, .ref a_this_generator, .ref a_this_powers, .ref a_this_syndromes, .ref a_this_locator, .ref a_this_former, .ref a_this_next, .ref a_this_evaluator, .ref a_this_slope])), (a_this_former, .inl (cI, n_this_former, .inl f24)), (a_this_locator, .inl (cI, n_this_locator, .inl f25)), (a_this_next, .inl (cI, n_this_next, .inl f26)), (a_this_syndromes, .inl (cI, n_this_syndromes, .inl f_this_syndromes))]) [1, 2, 3, 4, 0] rfl
                have hD := hD.sub (ws' := [(a_this, .inr (1, [.int i_this_length, .int i_this_checks, .ref a_this_generator, .ref a_this_powers, .ref a_this_syndromes, .ref a_this_locator, .ref a_this_former, .ref a_this_next, .ref a_this_evaluator, .ref a_this_slope])), (a_this_former, .inl (cI, n_this_former, .inl f24)), (a_this_locator, .inl (cI, n_this_locator, .inl f25)), (a_this_next, .inl (cI, n_this_next, .inl f26)), (a_this_syndromes, .inl (cI, n_this_syndromes, .inl f_this_syndromes))]) [1, 2, 3, 4, 0] (by decide) rfl
                refine lv_iload hx hb dX0_locateWrong_71 (lv_at hl 0 rfl) ?_
                refine lv_if_eq (tgt := 86) hx hb dX0_locateWrong_73 (by decide) (fun c73 => ?_) (fun c73 => ?_)
                · replace h := im_t c73 h
                  refine lv_iload_n hx hb dX0_locateWrong_86 rfl (lv_at hl 3 rfl) ?_
                  exact J23 v3 f24 f25 f26 h _ _ _ hP hD hS (lv_sub hl [1, 2, 4] rfl)
                · replace h := im_f c73 h
                  refine lv_iload_n hx hb dX0_locateWrong_76 rfl (lv_at hl 4 rfl) ?_
                  refine lv_iconst (v := (1 : Int32)) hx hb dX0_locateWrong_77 (by decide) ?_
                  refine lv_iadd hx hb dX0_locateWrong_78 ?_
                  refine lv_topi (fun v27 ev27 => ?_)
                  replace h := im_lt_u h v27 ev27
                  refine lv_iload_n hx hb dX0_locateWrong_79 rfl (lv_at hl 2 rfl) ?_
                  refine lv_iadd hx hb dX0_locateWrong_80 ?_
                  refine lv_topi (fun v28 ev28 => ?_)
                  replace h := im_lt_u h v28 ev28
                  refine lv_iload_n hx hb dX0_locateWrong_81 rfl (lv_at hl 3 rfl) ?_
                  refine lv_isub hx hb dX0_locateWrong_82 ?_
                  refine lv_topi (fun v29 ev29 => ?_)
                  replace h := im_lt_u h v29 ev29
                  refine lv_goto (tgt := 87) hx hb dX0_locateWrong_83 (by decide) ?_
                  exact J23 v29 f24 f25 f26 h _ _ _ hP hD hS (lv_sub hl [1, 2, 4] rfl)
            · refine lv_iconst (v := (2 : Int32)) hx hb dX0_locateWrong_47 (by decide) ?_
              refine lv_iload_n hx hb dX0_locateWrong_48 rfl (lv_at hl 3 rfl) ?_
              refine lv_imul hx hb dX0_locateWrong_49 ?_
              refine lv_topi (fun v30 ev30 => ?_)
              replace h := im_lt_u h v30 ev30
              refine lv_iload_n hx hb dX0_locateWrong_50 rfl (lv_at hl 4 rfl) ?_
              refine lv_iload_n hx hb dX0_locateWrong_51 rfl (lv_at hl 2 rfl) ?_
              refine lv_iadd hx hb dX0_locateWrong_52 ?_
              refine lv_topi (fun v31 ev31 => ?_)
              replace h := im_lt_u h v31 ev31
              refine lv_icmp_gt (tgt := 60) hx hb dX0_locateWrong_53 (by decide) (fun c53 => ?_) (fun c53 => ?_)
              · replace h := im_t c53 h
                refine lv_iconst (v := (0 : Int32)) hx hb dX0_locateWrong_60 (by decide) ?_
                exact J18 (0 : Int32) h _ _ _ hP hD hS (lv_sub hl [1, 2, 3, 4, 0] rfl)
              · replace h := im_f c53 h
                refine lv_iconst (v := (1 : Int32)) hx hb dX0_locateWrong_56 (by decide) ?_
                refine lv_goto (tgt := 61) hx hb dX0_locateWrong_57 (by decide) ?_
                exact J18 (1 : Int32) h _ _ _ hP hD hS (lv_sub hl [1, 2, 3, 4, 0] rfl)
  exact Lp8 5000 x0 x0 f2 f_this_locator f_this_next h _ _ _ hP hD hS (lv_sub hl [2, 3, 1, 0] rfl)
def im_X0_fillEvaluator_L2 (i_this_checks : Int32) (n_this_locator : Nat) (n_this_syndromes : Nat) (f_this_locator : Nat → Int32) (f_this_syndromes : Nat → Int32) (n_this_evaluator : Nat) : Nat → Int32 → (Nat → Int32) → Option ((Nat → Int32))
  | 0, _, _ => none
  | n + 1, v1, f2 => if i_this_checks ≤ v1 then (some f2) else im_b1 (im_X0_gapAt v1 n_this_locator n_this_syndromes f_this_locator f_this_syndromes) (fun v4 => im_st n_this_evaluator f2 v1 v4 (fun f5 => im_lt (v1 + (1 : Int32)) (fun v6 => (im_X0_fillEvaluator_L2 i_this_checks n_this_locator n_this_syndromes f_this_locator f_this_syndromes n_this_evaluator n v6 f5))))
def im_X0_fillEvaluator (i_this_checks : Int32) (n_this_evaluator : Nat) (n_this_locator : Nat) (n_this_syndromes : Nat) (f_this_evaluator : Nat → Int32) (f_this_locator : Nat → Int32) (f_this_syndromes : Nat → Int32) : Option ((Nat → Int32)) := (im_X0_fillEvaluator_L2 i_this_checks n_this_locator n_this_syndromes f_this_locator f_this_syndromes n_this_evaluator 5000 (0 : Int32) f_this_evaluator)
abbrev rm_X0_fillEvaluator : Room := { frames := 2, cells := 0, slots := 0, locals := 47 }
theorem hn_X0_fillEvaluator_X0 : ∀ w ∈ wsX00, w ∈ wsX0_fillEvaluator := by decide +kernel
theorem fl_X0_fillEvaluator_15 : Cond.fieldLink RX0 15 "BarCodes$CheckCode" "checks" "I" ∈ wsX0_fillEvaluator := by decide +kernel
theorem fl_X0_fillEvaluator_37 : Cond.fieldLink RX0 37 "BarCodes$CheckCode" "evaluator" "[I" ∈ wsX0_fillEvaluator := by decide +kernel
set_option maxHeartbeats 4000000 in
set_option maxRecDepth 100000 in
theorem c_X0_fillEvaluator (l : Launch) (dC : Nat → ClassId) (dI : Nat → Nat → Nat) (cI cJ cZ : ClassId) (sz : Nat) (a_this a_this_generator a_this_powers a_this_syndromes a_this_locator a_this_former a_this_next a_this_evaluator a_this_slope : Nat) (i_this_length i_this_checks : Int32) (n_this_evaluator n_this_locator n_this_syndromes : Nat) (f_this_evaluator : Nat → Int32) (f_this_locator : Nat → Int32) (f_this_syndromes : Nat → Int32) {r : (Nat → Int32)} (h : im_X0_fillEvaluator i_this_checks n_this_evaluator n_this_locator n_this_syndromes f_this_evaluator f_this_locator f_this_syndromes = some r) : Met l yX0_fillEvaluator wsX0_fillEvaluator rm_X0_fillEvaluator (va_Pc [.ref a_this] (fun U => U.heap.size = sz ∧ va_P (dC, dI) vwCl [(a_this, .inr (1, [.int i_this_length, .int i_this_checks, .ref a_this_generator, .ref a_this_powers, .ref a_this_syndromes, .ref a_this_locator, .ref a_this_former, .ref a_this_next, .ref a_this_evaluator, .ref a_this_slope])), (a_this_evaluator, .inl (cI, n_this_evaluator, .inl f_this_evaluator)), (a_this_locator, .inl (cI, n_this_locator, .inl f_this_locator)), (a_this_syndromes, .inl (cI, n_this_syndromes, .inl f_this_syndromes))] U.heap ∧ va_K (dC, dI) vwCl [(cI, .int), (cJ, .long), (cZ, .boolean)] U ∧ va_D (fun _ => True) [(a_this, .inr (1, [.int i_this_length, .int i_this_checks, .ref a_this_generator, .ref a_this_powers, .ref a_this_syndromes, .ref a_this_locator, .ref a_this_former, .ref a_this_next, .ref a_this_evaluator, .ref a_this_slope])), (a_this_evaluator, .inl (cI, n_this_evaluator, .inl f_this_evaluator)), (a_this_locator, .inl (cI, n_this_locator, .inl f_this_locator)), (a_this_syndromes, .inl (cI, n_this_syndromes, .inl f_this_syndromes))])) (va_Qv (S := (Nat → Int32)) (fun u9 => u9 = r) (fun u9 t9 => va_P (dC, dI) vwCl [(a_this, .inr (1, [.int i_this_length, .int i_this_checks, .ref a_this_generator, .ref a_this_powers, .ref a_this_syndromes, .ref a_this_locator, .ref a_this_former, .ref a_this_next, .ref a_this_evaluator, .ref a_this_slope])), (a_this_evaluator, .inl (cI, n_this_evaluator, .inl (u9))), (a_this_locator, .inl (cI, n_this_locator, .inl f_this_locator)), (a_this_syndromes, .inl (cI, n_this_syndromes, .inl f_this_syndromes))] t9.heap ∧ va_K (dC, dI) vwCl [(cI, .int), (cJ, .long), (cZ, .boolean)] t9 ∧ va_D (va_A [(a_this, .inr (1, [.int i_this_length, .int i_this_checks, .ref a_this_generator, .ref a_this_powers, .ref a_this_syndromes, .ref a_this_locator, .ref a_this_former, .ref a_this_next, .ref a_this_evaluator, .ref a_this_slope])), (a_this_evaluator, .inl (cI, n_this_evaluator, .inl f_this_evaluator)), (a_this_locator, .inl (cI, n_this_locator, .inl f_this_locator)), (a_this_syndromes, .inl (cI, n_this_syndromes, .inl f_this_syndromes))] sz) [(a_this, .inr (1, [.int i_this_length, .int i_this_checks, .ref a_this_generator, .ref a_this_powers, .ref a_this_syndromes, .ref a_this_locator, .ref a_this_former, .ref a_this_next, .ref a_this_evaluator, .ref a_this_slope])), (a_this_evaluator, .inl (cI, n_this_evaluator, .inl (u9))), (a_this_locator, .inl (cI, n_this_locator, .inl f_this_locator)), (a_this_syndromes, .inl (cI, n_this_syndromes, .inl f_this_syndromes))]) (va_A [(a_this, .inr (1, [.int i_this_length, .int i_this_checks, .ref a_this_generator, .ref a_this_powers, .ref a_this_syndromes, .ref a_this_locator, .ref a_this_former, .ref a_this_next, .ref a_this_evaluator, .ref a_this_slope])), (a_this_evaluator, .inl (cI, n_this_evaluator, .inl f_this_evaluator)), (a_this_locator, .inl (cI, n_this_locator, .inl f_this_locator)), (a_this_syndromes, .inl (cI, n_this_syndromes, .inl f_this_syndromes))] sz)) 0 0 (va_A [(a_this, .inr (1, [.int i_this_length, .int i_this_checks, .ref a_this_generator, .ref a_this_powers, .ref a_this_syndromes, .ref a_this_locator, .ref a_this_former, .ref a_this_next, .ref a_this_evaluator, .ref a_this_slope])), (a_this_evaluator, .inl (cI, n_this_evaluator, .inl f_this_evaluator)), (a_this_locator, .inl (cI, n_this_locator, .inl f_this_locator)), (a_this_syndromes, .inl (cI, n_this_syndromes, .inl f_this_syndromes))] sz) := by
  refine Met.ofW (cc := cX0_fillEvaluator) (maxL := 2) (ret := none) (by decide) rfl ?_
  intro p e s m args below meth c s₁ B hml hv
  obtain ⟨eargs, hsz, hP, hK, hD0⟩ := hv
  have hx := B.exec
  have hb := B.bytes
  have hr := B.returns
  have hts := atoms_spec (ws := wsX0_fillEvaluator) B.pre
  have hown : s.vm.findClass RX0 = some m.cls := findClass_of_methodNamed B.named
  have hlocks := B.notSynchronized
  refine im_Q (fun Q eQ => ?_)
  subst hsz
  have hD := hD0.self (sz := s.heap.size)
  generalize hAe : va_A [(a_this, .inr (1, [.int i_this_length, .int i_this_checks, .ref a_this_generator, .ref a_this_powers, .ref a_this_syndromes, .ref a_this_locator, .ref a_this_former, .ref a_this_next, .ref a_this_evaluator, .ref a_this_slope])), (a_this_evaluator, .inl (cI, n_this_evaluator, .inl f_this_evaluator)), (a_this_locator, .inl (cI, n_this_locator, .inl f_this_locator)), (a_this_syndromes, .inl (cI, n_this_syndromes, .inl f_this_syndromes))] s.heap.size = A at hD eQ
  have hA : ∀ q : Nat, s.heap.size ≤ q → A q := fun q h => by rw [← hAe]; exact Or.inr h
  have hS : va_S A s.heap s.heap [] := va_S.rf
  have hl := lv_entry [.ref a_this] (n := 2) (Nat.le_of_ble_eq_true rfl)
  rw [show entryFrame m args 2 = entryFrame m ([.ref a_this] : List Value).toArray 2 by rw [eargs], lg_entry_eq]
  generalize (lg_sl ([.ref a_this]) ++ List.replicate (2 - (lg_sl ([.ref a_this])).length) Slot.unset).toArray = ls at hl ⊢
  have hl : lv_has ls 2 [(0, .ref a_this)] := hl
  rw [im_X0_fillEvaluator] at h
  refine lv_iconst (v := (0 : Int32)) hx hb dX0_fillEvaluator_0 (by decide) ?_
  refine lv_istore_n (lv' := [(1, .int (0 : Int32)), (0, .ref a_this)]) hx hb dX0_fillEvaluator_1 rfl hl (by decide) rfl (fun ls hl => ?_)
  have Lp3 : ∀ (n : Nat) (v1 : Int32) (f2 : Nat → Int32), im_X0_fillEvaluator_L2 i_this_checks n_this_locator n_this_syndromes f_this_locator f_this_syndromes n_this_evaluator n v1 f2 = some r → ∀ (H : Heap) (locs : List Loc) (ls : Array Slot), va_P (dC, dI) vwCl [(a_this, .inr (1, [.int i_this_length, .int i_this_checks, .ref a_this_generator, .ref a_this_powers, .ref a_this_syndromes, .ref a_this_locator, .ref a_this_former, .ref a_this_next, .ref a_this_evaluator, .ref a_this_slope])), (a_this_evaluator, .inl (cI, n_this_evaluator, .inl f2)), (a_this_locator, .inl (cI, n_this_locator, .inl f_this_locator)), (a_this_syndromes, .inl (cI, n_this_syndromes, .inl f_this_syndromes))] H → va_D A [(a_this, .inr (1, [.int i_this_length, .int i_this_checks, .ref a_this_generator, .ref a_this_powers, .ref a_this_syndromes, .ref a_this_locator, .ref a_this_former, .ref a_this_next, .ref a_this_evaluator, .ref a_this_slope])), (a_this_evaluator, .inl (cI, n_this_evaluator, .inl f2)), (a_this_locator, .inl (cI, n_this_locator, .inl f_this_locator)), (a_this_syndromes, .inl (cI, n_this_syndromes, .inl f_this_syndromes))] → va_S A s.heap H locs → lv_has ls 2 [(0, .ref a_this), (1, .int v1)] → W p l e (headSpec wsX0_fillEvaluator rm_X0_fillEvaluator).room s m args below meth c H locs 0 0 Q (F0 m 2 ls []) := by
    intro n
    induction n with
    | zero => intro v1 f2 h; rw [im_X0_fillEvaluator_L2] at h; cases h
    | succ n ih =>
      intro v1 f2 h H locs ls hP hD hS hl
      rw [im_X0_fillEvaluator_L2] at h
      refine lv_iload_n hx hb dX0_fillEvaluator_2 rfl (lv_at hl 1 rfl) ?_
      refine lv_aload_n hx hb dX0_fillEvaluator_3 rfl (lv_at hl 0 rfl) ?_
      refine va_get (D := (dC, dI)) (ci := 1) (v := .int i_this_checks) (C := RX0) (T := TX0) (N := 10) hx hb hts hn_X0_fillEvaluator_X0 hown hK hP 0 rfl rfl 1 (by decide) (hts _ fl_X0_fillEvaluator_15) (fun _ h9 => h9) rfl dX0_fillEvaluator_4 ?_
      refine lv_icmp_ge (tgt := 27) hx hb dX0_fillEvaluator_7 (by decide) (fun c7 => ?_) (fun c7 => ?_)
      · replace h := im_t c7 h
        rw [eQ]
        exact W.vret hx hb hr (fun t ht hW => ⟨⟨f2, rfl, Option.some.inj h, by rw [ht]; exact hP, va_K.moved hW.alike hK, hD⟩, hS.F ht⟩) hS.2.2 dX0_fillEvaluator_27
      · replace h := im_f c7 h
        refine lv_aload_n hx hb dX0_fillEvaluator_10 rfl (lv_at hl 0 rfl) ?_
        refine va_get (D := (dC, dI)) (ci := 1) (v := .ref a_this_evaluator) (C := RX0) (T := TX0) (N := 10) hx hb hts hn_X0_fillEvaluator_X0 hown hK hP 0 rfl rfl 8 (by decide) (hts _ fl_X0_fillEvaluator_37) (fun _ h9 => h9) rfl dX0_fillEvaluator_11 ?_
        refine lv_iload_n hx hb dX0_fillEvaluator_14 rfl (lv_at hl 1 rfl) ?_
        refine lv_aload_n hx hb dX0_fillEvaluator_15 rfl (lv_at hl 0 rfl) ?_
        refine lv_iload_n hx hb dX0_fillEvaluator_16 rfl (lv_at hl 1 rfl) ?_
        obtain ⟨v4, y17, h⟩ := im_b1_u h
        have hPc := hP.sub (ws' := [(a_this, .inr (1, [.int i_this_length, .int i_this_checks, .ref a_this_generator, .ref a_this_powers, .ref a_this_syndromes, .ref a_this_locator, .ref a_this_former, .ref a_this_next, .ref a_this_evaluator, .ref a_this_slope])), (a_this_locator, .inl (cI, n_this_locator, .inl f_this_locator)), (a_this_syndromes, .inl (cI, n_this_syndromes, .inl f_this_syndromes))]) [0, 2, 3] rfl
        refine vp_callSi (W.runV (As := [.int v1]) (rest := [.int v1, .ref a_this_evaluator]) ⟨hx, hb, hml, hown, hts⟩ (c_X0_gapAt l dC dI cI cJ cZ a_this a_this_generator a_this_powers a_this_syndromes a_this_locator a_this_former a_this_next a_this_evaluator a_this_slope i_this_length i_this_checks n_this_locator n_this_syndromes f_this_locator f_this_syndromes v1 y17) (cwV 1 hts gX0_fillEvaluator_X0_gapAt rfl rfl rfl (by decide +kernel) ⟨Nat.le_of_ble_eq_true rfl, Nat.le_of_ble_eq_true rfl⟩) ⟨fun a U g mk q => by obtain ⟨q0, qP, qK⟩ := q; exact ⟨q0, qP, va_K.moved (u := U) (U := U.calling g mk a) (Vm.Alike.refl U.vm) qK⟩, va_recv hK hPc (ci := 1) (q0 := 0) rfl rfl, fun U hU hW => ⟨rfl, by rw [hU]; exact hPc, va_K.moved hW.alike hK⟩⟩ rfl rfl hl.1 rfl (lv_room (Nat.le_of_ble_eq_true rfl)) dX0_fillEvaluator_17 ⟨Nat.zero_le _, Nat.zero_le _⟩) (fun w17 ew17 => ?_)
        have ew17 := ew17.symm
        subst ew17
        obtain ⟨q20, h⟩ := im_st_u h
        refine va_iast hx hb hK hP hD hS 1 0 rfl rfl q20 dX0_fillEvaluator_20 (fun H locs hP hD hS => ?_)
        obtain ⟨f5, ef5⟩ : ∃ g : Nat → Int32, g = upd f2 v1.toNatClampNeg v4 := ⟨_, rfl⟩
        replace h := h f5 ef5
        rw [← ef5] at hP hD
        have hP : va_P (dC, dI) vwCl [(a_this, .inr (1, [.int i_this_length, .int i_this_checks, .ref a_this_generator, .ref a_this_powers, .ref a_this_syndromes, .ref a_this_locator, .ref a_this_former, .ref a_this_next, .ref a_this_evaluator, .ref a_this_slope])), (a_this_evaluator, .inl (cI, n_this_evaluator, .inl f5)), (a_this_locator, .inl (cI, n_this_locator, .inl f_this_locator)), (a_this_syndromes, .inl (cI, n_this_syndromes, .inl f_this_syndromes))] H := hP
        have hD : va_D A [(a_this, .inr (1, [.int i_this_length, .int i_this_checks, .ref a_this_generator, .ref a_this_powers, .ref a_this_syndromes, .ref a_this_locator, .ref a_this_former, .ref a_this_next, .ref a_this_evaluator, .ref a_this_slope])), (a_this_evaluator, .inl (cI, n_this_evaluator, .inl f5)), (a_this_locator, .inl (cI, n_this_locator, .inl f_this_locator)), (a_this_syndromes, .inl (cI, n_this_syndromes, .inl f_this_syndromes))] := hD
        obtain ⟨v6, ev6⟩ : ∃ y : Int32, y = (v1 + (1 : Int32)) := ⟨_, rfl⟩
        replace h := im_lt_u h v6 ev6
        refine lv_iinc (v := v6) (lv' := [(1, .int v6), (0, .ref a_this)]) hx hb dX0_fillEvaluator_21 hl (k := 1) rfl (by rw [ev6]; rfl) (by decide) rfl (fun ls hl => ?_)
        refine lv_goto (tgt := 2) hx hb dX0_fillEvaluator_24 (by decide) ?_
        exact ih v6 f5 h _ _ _ hP hD hS (lv_sub hl [1, 0] rfl)
  exact Lp3 5000 (0 : Int32) f_this_evaluator h _ _ _ hP hD hS (lv_sub hl [1, 0] rfl)
def im_X0_fillSlope_L2 (i_this_checks : Int32) (n_this_slope : Nat) (n_this_locator : Nat) (f_this_locator : Nat → Int32) : Nat → Int32 → (Nat → Int32) → Option ((Nat → Int32))
  | 0, _, _ => none
  | n + 1, v1, f2 => if i_this_checks ≤ v1 then (some f2) else im_j2 (fun (v4 : Int32) (v5 : Int32) => im_st n_this_slope f2 v5 v4 (fun f7 => im_lt (v1 + (1 : Int32)) (fun v8 => (im_X0_fillSlope_L2 i_this_checks n_this_slope n_this_locator f_this_locator n v8 f7)))) (fun K6 => im_lt (v1 - v1 / (2 : Int32) * (2 : Int32)) (fun v9 => if v9 = 0 then im_lt (v1 + (1 : Int32)) (fun v10 => im_ld n_this_locator f_this_locator v10 (fun v11 => (K6 v11 v1))) else (K6 (0 : Int32) v1)))
def im_X0_fillSlope (i_this_checks : Int32) (n_this_locator : Nat) (n_this_slope : Nat) (f_this_locator : Nat → Int32) (f_this_slope : Nat → Int32) : Option ((Nat → Int32)) := (im_X0_fillSlope_L2 i_this_checks n_this_slope n_this_locator f_this_locator 5000 (0 : Int32) f_this_slope)
abbrev rm_X0_fillSlope : Room := { frames := 0, cells := 0, slots := 0, locals := 0 }
theorem hn_X0_fillSlope_X0 : ∀ w ∈ wsX00, w ∈ wsX0_fillSlope := by decide +kernel
theorem fl_X0_fillSlope_15 : Cond.fieldLink RX0 15 "BarCodes$CheckCode" "checks" "I" ∈ wsX0_fillSlope := by decide +kernel
theorem fl_X0_fillSlope_40 : Cond.fieldLink RX0 40 "BarCodes$CheckCode" "slope" "[I" ∈ wsX0_fillSlope := by decide +kernel
theorem fl_X0_fillSlope_28 : Cond.fieldLink RX0 28 "BarCodes$CheckCode" "locator" "[I" ∈ wsX0_fillSlope := by decide +kernel
set_option maxHeartbeats 4000000 in
set_option maxRecDepth 100000 in
theorem c_X0_fillSlope (l : Launch) (dC : Nat → ClassId) (dI : Nat → Nat → Nat) (cI cJ cZ : ClassId) (sz : Nat) (a_this a_this_generator a_this_powers a_this_syndromes a_this_locator a_this_former a_this_next a_this_evaluator a_this_slope : Nat) (i_this_length i_this_checks : Int32) (n_this_locator n_this_slope : Nat) (f_this_locator : Nat → Int32) (f_this_slope : Nat → Int32) {r : (Nat → Int32)} (h : im_X0_fillSlope i_this_checks n_this_locator n_this_slope f_this_locator f_this_slope = some r) : Met l yX0_fillSlope wsX0_fillSlope rm_X0_fillSlope (va_Pc [.ref a_this] (fun U => U.heap.size = sz ∧ va_P (dC, dI) vwCl [(a_this, .inr (1, [.int i_this_length, .int i_this_checks, .ref a_this_generator, .ref a_this_powers, .ref a_this_syndromes, .ref a_this_locator, .ref a_this_former, .ref a_this_next, .ref a_this_evaluator, .ref a_this_slope])), (a_this_locator, .inl (cI, n_this_locator, .inl f_this_locator)), (a_this_slope, .inl (cI, n_this_slope, .inl f_this_slope))] U.heap ∧ va_K (dC, dI) vwCl [(cI, .int), (cJ, .long), (cZ, .boolean)] U ∧ va_D (fun _ => True) [(a_this, .inr (1, [.int i_this_length, .int i_this_checks, .ref a_this_generator, .ref a_this_powers, .ref a_this_syndromes, .ref a_this_locator, .ref a_this_former, .ref a_this_next, .ref a_this_evaluator, .ref a_this_slope])), (a_this_locator, .inl (cI, n_this_locator, .inl f_this_locator)), (a_this_slope, .inl (cI, n_this_slope, .inl f_this_slope))])) (va_Qv (S := (Nat → Int32)) (fun u9 => u9 = r) (fun u9 t9 => va_P (dC, dI) vwCl [(a_this, .inr (1, [.int i_this_length, .int i_this_checks, .ref a_this_generator, .ref a_this_powers, .ref a_this_syndromes, .ref a_this_locator, .ref a_this_former, .ref a_this_next, .ref a_this_evaluator, .ref a_this_slope])), (a_this_locator, .inl (cI, n_this_locator, .inl f_this_locator)), (a_this_slope, .inl (cI, n_this_slope, .inl (u9)))] t9.heap ∧ va_K (dC, dI) vwCl [(cI, .int), (cJ, .long), (cZ, .boolean)] t9 ∧ va_D (va_A [(a_this, .inr (1, [.int i_this_length, .int i_this_checks, .ref a_this_generator, .ref a_this_powers, .ref a_this_syndromes, .ref a_this_locator, .ref a_this_former, .ref a_this_next, .ref a_this_evaluator, .ref a_this_slope])), (a_this_locator, .inl (cI, n_this_locator, .inl f_this_locator)), (a_this_slope, .inl (cI, n_this_slope, .inl f_this_slope))] sz) [(a_this, .inr (1, [.int i_this_length, .int i_this_checks, .ref a_this_generator, .ref a_this_powers, .ref a_this_syndromes, .ref a_this_locator, .ref a_this_former, .ref a_this_next, .ref a_this_evaluator, .ref a_this_slope])), (a_this_locator, .inl (cI, n_this_locator, .inl f_this_locator)), (a_this_slope, .inl (cI, n_this_slope, .inl (u9)))]) (va_A [(a_this, .inr (1, [.int i_this_length, .int i_this_checks, .ref a_this_generator, .ref a_this_powers, .ref a_this_syndromes, .ref a_this_locator, .ref a_this_former, .ref a_this_next, .ref a_this_evaluator, .ref a_this_slope])), (a_this_locator, .inl (cI, n_this_locator, .inl f_this_locator)), (a_this_slope, .inl (cI, n_this_slope, .inl f_this_slope))] sz)) 0 0 (va_A [(a_this, .inr (1, [.int i_this_length, .int i_this_checks, .ref a_this_generator, .ref a_this_powers, .ref a_this_syndromes, .ref a_this_locator, .ref a_this_former, .ref a_this_next, .ref a_this_evaluator, .ref a_this_slope])), (a_this_locator, .inl (cI, n_this_locator, .inl f_this_locator)), (a_this_slope, .inl (cI, n_this_slope, .inl f_this_slope))] sz) := by
  refine Met.ofW (cc := cX0_fillSlope) (maxL := 2) (ret := none) (by decide) rfl ?_
  intro p e s m args below meth c s₁ B hml hv
  obtain ⟨eargs, hsz, hP, hK, hD0⟩ := hv
  have hx := B.exec
  have hb := B.bytes
  have hr := B.returns
  have hts := atoms_spec (ws := wsX0_fillSlope) B.pre
  have hown : s.vm.findClass RX0 = some m.cls := findClass_of_methodNamed B.named
  have hlocks := B.notSynchronized
  refine im_Q (fun Q eQ => ?_)
  subst hsz
  have hD := hD0.self (sz := s.heap.size)
  generalize hAe : va_A [(a_this, .inr (1, [.int i_this_length, .int i_this_checks, .ref a_this_generator, .ref a_this_powers, .ref a_this_syndromes, .ref a_this_locator, .ref a_this_former, .ref a_this_next, .ref a_this_evaluator, .ref a_this_slope])), (a_this_locator, .inl (cI, n_this_locator, .inl f_this_locator)), (a_this_slope, .inl (cI, n_this_slope, .inl f_this_slope))] s.heap.size = A at hD eQ
  have hA : ∀ q : Nat, s.heap.size ≤ q → A q := fun q h => by rw [← hAe]; exact Or.inr h
  have hS : va_S A s.heap s.heap [] := va_S.rf
  have hl := lv_entry [.ref a_this] (n := 2) (Nat.le_of_ble_eq_true rfl)
  rw [show entryFrame m args 2 = entryFrame m ([.ref a_this] : List Value).toArray 2 by rw [eargs], lg_entry_eq]
  generalize (lg_sl ([.ref a_this]) ++ List.replicate (2 - (lg_sl ([.ref a_this])).length) Slot.unset).toArray = ls at hl ⊢
  have hl : lv_has ls 2 [(0, .ref a_this)] := hl
  rw [im_X0_fillSlope] at h
  refine lv_iconst (v := (0 : Int32)) hx hb dX0_fillSlope_0 (by decide) ?_
  refine lv_istore_n (lv' := [(1, .int (0 : Int32)), (0, .ref a_this)]) hx hb dX0_fillSlope_1 rfl hl (by decide) rfl (fun ls hl => ?_)
  have Lp3 : ∀ (n : Nat) (v1 : Int32) (f2 : Nat → Int32), im_X0_fillSlope_L2 i_this_checks n_this_slope n_this_locator f_this_locator n v1 f2 = some r → ∀ (H : Heap) (locs : List Loc) (ls : Array Slot), va_P (dC, dI) vwCl [(a_this, .inr (1, [.int i_this_length, .int i_this_checks, .ref a_this_generator, .ref a_this_powers, .ref a_this_syndromes, .ref a_this_locator, .ref a_this_former, .ref a_this_next, .ref a_this_evaluator, .ref a_this_slope])), (a_this_locator, .inl (cI, n_this_locator, .inl f_this_locator)), (a_this_slope, .inl (cI, n_this_slope, .inl f2))] H → va_D A [(a_this, .inr (1, [.int i_this_length, .int i_this_checks, .ref a_this_generator, .ref a_this_powers, .ref a_this_syndromes, .ref a_this_locator, .ref a_this_former, .ref a_this_next, .ref a_this_evaluator, .ref a_this_slope])), (a_this_locator, .inl (cI, n_this_locator, .inl f_this_locator)), (a_this_slope, .inl (cI, n_this_slope, .inl f2))] → va_S A s.heap H locs → lv_has ls 2 [(0, .ref a_this), (1, .int v1)] → W p l e (headSpec wsX0_fillSlope rm_X0_fillSlope).room s m args below meth c H locs 0 0 Q (F0 m 2 ls []) := by
    intro n
    induction n with
    | zero => intro v1 f2 h; rw [im_X0_fillSlope_L2] at h; cases h
    | succ n ih =>
      intro v1 f2 h H locs ls hP hD hS hl
      rw [im_X0_fillSlope_L2] at h
      refine lv_iload_n hx hb dX0_fillSlope_2 rfl (lv_at hl 1 rfl) ?_
      refine lv_aload_n hx hb dX0_fillSlope_3 rfl (lv_at hl 0 rfl) ?_
      refine va_get (D := (dC, dI)) (ci := 1) (v := .int i_this_checks) (C := RX0) (T := TX0) (N := 10) hx hb hts hn_X0_fillSlope_X0 hown hK hP 0 rfl rfl 1 (by decide) (hts _ fl_X0_fillSlope_15) (fun _ h9 => h9) rfl dX0_fillSlope_4 ?_
      refine lv_icmp_ge (tgt := 40) hx hb dX0_fillSlope_7 (by decide) (fun c7 => ?_) (fun c7 => ?_)
      · replace h := im_t c7 h
        rw [eQ]
        exact W.vret hx hb hr (fun t ht hW => ⟨⟨f2, rfl, Option.some.inj h, by rw [ht]; exact hP, va_K.moved hW.alike hK, hD⟩, hS.F ht⟩) hS.2.2 dX0_fillSlope_40
      · replace h := im_f c7 h
        refine im_j2_u (P := fun v4 v5 => ∀ (H : Heap) (locs : List Loc) (ls : Array Slot), va_P (dC, dI) vwCl [(a_this, .inr (1, [.int i_this_length, .int i_this_checks, .ref a_this_generator, .ref a_this_powers, .ref a_this_syndromes, .ref a_this_locator, .ref a_this_former, .ref a_this_next, .ref a_this_evaluator, .ref a_this_slope])), (a_this_locator, .inl (cI, n_this_locator, .inl f_this_locator)), (a_this_slope, .inl (cI, n_this_slope, .inl f2))] H → va_D A [(a_this, .inr (1, [.int i_this_length, .int i_this_checks, .ref a_this_generator, .ref a_this_powers, .ref a_this_syndromes, .ref a_this_locator, .ref a_this_former, .ref a_this_next, .ref a_this_evaluator, .ref a_this_slope])), (a_this_locator, .inl (cI, n_this_locator, .inl f_this_locator)), (a_this_slope, .inl (cI, n_this_slope, .inl f2))] → va_S A s.heap H locs → lv_has ls 2 [(0, .ref a_this), (1, .int v1)] → W p l e (headSpec wsX0_fillSlope rm_X0_fillSlope).room s m args below meth c H locs 0 0 Q (F0 m 33 ls [.int v4, .int v5, .ref a_this_slope])) h (fun v4 v5 h H locs ls hP hD hS hl => ?_) (fun K6 J6 h => ?_)
        · obtain ⟨q33, h⟩ := im_st_u h
          refine va_iast hx hb hK hP hD hS 2 0 rfl rfl q33 dX0_fillSlope_33 (fun H locs hP hD hS => ?_)
          obtain ⟨f7, ef7⟩ : ∃ g : Nat → Int32, g = upd f2 v5.toNatClampNeg v4 := ⟨_, rfl⟩
          replace h := h f7 ef7
          rw [← ef7] at hP hD
          have hP : va_P (dC, dI) vwCl [(a_this, .inr (1, [.int i_this_length, .int i_this_checks, .ref a_this_generator, .ref a_this_powers, .ref a_this_syndromes, .ref a_this_locator, .ref a_this_former, .ref a_this_next, .ref a_this_evaluator, .ref a_this_slope])), (a_this_locator, .inl (cI, n_this_locator, .inl f_this_locator)), (a_this_slope, .inl (cI, n_this_slope, .inl f7))] H := hP
          have hD : va_D A [(a_this, .inr (1, [.int i_this_length, .int i_this_checks, .ref a_this_generator, .ref a_this_powers, .ref a_this_syndromes, .ref a_this_locator, .ref a_this_former, .ref a_this_next, .ref a_this_evaluator, .ref a_this_slope])), (a_this_locator, .inl (cI, n_this_locator, .inl f_this_locator)), (a_this_slope, .inl (cI, n_this_slope, .inl f7))] := hD
          obtain ⟨v8, ev8⟩ : ∃ y : Int32, y = (v1 + (1 : Int32)) := ⟨_, rfl⟩
          replace h := im_lt_u h v8 ev8
          refine lv_iinc (v := v8) (lv' := [(1, .int v8), (0, .ref a_this)]) hx hb dX0_fillSlope_34 hl (k := 1) rfl (by rw [ev8]; rfl) (by decide) rfl (fun ls hl => ?_)
          refine lv_goto (tgt := 2) hx hb dX0_fillSlope_37 (by decide) ?_
          exact ih v8 f7 h _ _ _ hP hD hS (lv_sub hl [1, 0] rfl)
        · refine lv_aload_n hx hb dX0_fillSlope_10 rfl (lv_at hl 0 rfl) ?_
          refine va_get (D := (dC, dI)) (ci := 1) (v := .ref a_this_slope) (C := RX0) (T := TX0) (N := 10) hx hb hts hn_X0_fillSlope_X0 hown hK hP 0 rfl rfl 9 (by decide) (hts _ fl_X0_fillSlope_40) (fun _ h9 => h9) rfl dX0_fillSlope_11 ?_
          refine lv_iload_n hx hb dX0_fillSlope_14 rfl (lv_at hl 1 rfl) ?_
          refine lv_iload_n hx hb dX0_fillSlope_15 rfl (lv_at hl 1 rfl) ?_
          refine lv_iconst (v := (2 : Int32)) hx hb dX0_fillSlope_16 (by decide) ?_
          refine lv_irem hx hb dX0_fillSlope_17 (by decide) ?_
          refine lv_topi (fun v9 ev9 => ?_)
          replace h := im_lt_u h v9 ev9
          refine lv_if_ne (tgt := 32) hx hb dX0_fillSlope_18 (by decide) (fun c18 => ?_) (fun c18 => ?_)
          · replace h := im_f c18 h
            refine lv_iconst (v := (0 : Int32)) hx hb dX0_fillSlope_32 (by decide) ?_
            exact J6 (0 : Int32) v1 h _ _ _ hP hD hS (lv_sub hl [0, 1] rfl)
          · replace h := im_t c18 h
            refine lv_aload_n hx hb dX0_fillSlope_21 rfl (lv_at hl 0 rfl) ?_
            refine va_get (D := (dC, dI)) (ci := 1) (v := .ref a_this_locator) (C := RX0) (T := TX0) (N := 10) hx hb hts hn_X0_fillSlope_X0 hown hK hP 0 rfl rfl 5 (by decide) (hts _ fl_X0_fillSlope_28) (fun _ h9 => h9) rfl dX0_fillSlope_22 ?_
            refine lv_iload_n hx hb dX0_fillSlope_25 rfl (lv_at hl 1 rfl) ?_
            refine lv_iconst (v := (1 : Int32)) hx hb dX0_fillSlope_26 (by decide) ?_
            refine lv_iadd hx hb dX0_fillSlope_27 ?_
            refine lv_topi (fun v10 ev10 => ?_)
            replace h := im_lt_u h v10 ev10
            obtain ⟨q28, h⟩ := im_ld_u h
            refine va_iald hx hb hK hP 1 0 rfl rfl q28 dX0_fillSlope_28 ?_
            refine lv_topi (fun v11 ev11 => ?_)
            replace h := h v11 ev11
            refine lv_goto (tgt := 33) hx hb dX0_fillSlope_29 (by decide) ?_
            exact J6 v11 v1 h _ _ _ hP hD hS (lv_sub hl [0, 1] rfl)
  exact Lp3 5000 (0 : Int32) f_this_slope h _ _ _ hP hD hS (lv_sub hl [1, 0] rfl)
def im_X0_correct_L5 (i_this_length : Int32) (n_this_powers : Nat) (f_this_powers : Nat → Int32) (n_this_locator : Nat) (f_this_locator : Nat → Int32) (n_this_slope : Nat) (f_this_slope : Nat → Int32) (n_this_evaluator : Nat) (f_this_evaluator : Nat → Int32) (n_p0 : Nat) (n_p1 : Nat) (f_p1 : Nat → Int32) : Nat → Int32 → Int32 → (Nat → Int32) → Option (Int32 × (Nat → Int32))
  | 0, _, _, _ => none
  | n + 1, v1, v2, f3 => if i_this_length ≤ v2 then (some (v1, f3)) else im_j2 (fun (v5 : Int32) (f6 : Nat → Int32) => im_lt (v2 + (1 : Int32)) (fun v8 => (im_X0_correct_L5 i_this_length n_this_powers f_this_powers n_this_locator f_this_locator n_this_slope f_this_slope n_this_evaluator f_this_evaluator n_p0 n_p1 f_p1 n v5 v8 f6))) (fun K7 => im_ld n_this_powers f_this_powers v2 (fun v9 => im_b1 (im_X1_inverse v9) (fun v10 => im_b1 (im_X1_valueAt v10 n_this_locator f_this_locator) (fun v11 => if v11 = 0 then im_j3 (fun (v12 : Int32) (v13 : Int32) (f14 : Nat → Int32) => im_lt (v13 + v12) (fun v16 => (K7 v16 f14))) (fun K15 => im_j2 (fun (v17 : Int32) (f18 : Nat → Int32) => (K15 (0 : Int32) v17 f18)) (fun K19 => im_b1 (im_X1_valueAt v10 n_this_slope f_this_slope) (fun v20 => im_b1 (im_X1_valueAt v10 n_this_evaluator f_this_evaluator) (fun v21 => im_b1 (im_X1_inverse v20) (fun v22 => im_b1 (im_X1_product v21 v22) (fun v23 => im_ld n_p0 f3 v2 (fun v24 => im_lt (v24 ^^^ v23) (fun v25 => im_st n_p0 f3 v2 v25 (fun f26 => if v23 = 0 then (K19 v1 f26) else im_ld n_p1 f_p1 v2 (fun v27 => if v27 = 0 then (K15 (1 : Int32) v1 f26) else (K19 v1 f26))))))))))) else (K7 v1 f3)))))
def im_X0_correct (i_this_length : Int32) (n_p0 : Nat) (n_p1 : Nat) (n_this_evaluator : Nat) (n_this_locator : Nat) (n_this_powers : Nat) (n_this_slope : Nat) (f_p0 : Nat → Int32) (f_p1 : Nat → Int32) (f_this_evaluator : Nat → Int32) (f_this_locator : Nat → Int32) (f_this_powers : Nat → Int32) (f_this_slope : Nat → Int32) : Option (Int32 × (Nat → Int32)) := (im_X0_correct_L5 i_this_length n_this_powers f_this_powers n_this_locator f_this_locator n_this_slope f_this_slope n_this_evaluator f_this_evaluator n_p0 n_p1 f_p1 5000 (0 : Int32) (0 : Int32) f_p0)
abbrev rm_X0_correct : Room := { frames := 2, cells := 0, slots := 0, locals := 47 }
theorem hn_X0_correct_X0 : ∀ w ∈ wsX00, w ∈ wsX0_correct := by decide +kernel
theorem fl_X0_correct_9 : Cond.fieldLink RX0 9 "BarCodes$CheckCode" "length" "I" ∈ wsX0_correct := by decide +kernel
theorem fl_X0_correct_22 : Cond.fieldLink RX0 22 "BarCodes$CheckCode" "powers" "[I" ∈ wsX0_correct := by decide +kernel
theorem fl_X0_correct_28 : Cond.fieldLink RX0 28 "BarCodes$CheckCode" "locator" "[I" ∈ wsX0_correct := by decide +kernel
theorem fl_X0_correct_40 : Cond.fieldLink RX0 40 "BarCodes$CheckCode" "slope" "[I" ∈ wsX0_correct := by decide +kernel
theorem fl_X0_correct_37 : Cond.fieldLink RX0 37 "BarCodes$CheckCode" "evaluator" "[I" ∈ wsX0_correct := by decide +kernel
set_option maxHeartbeats 4000000 in
set_option maxRecDepth 100000 in
theorem c_X0_correct (l : Launch) (dC : Nat → ClassId) (dI : Nat → Nat → Nat) (cI cJ cZ : ClassId) (sz : Nat) (a_this a_this_generator a_this_powers a_this_syndromes a_this_locator a_this_former a_this_next a_this_evaluator a_this_slope a_p0 a_p1 : Nat) (i_this_length i_this_checks : Int32) (n_p0 n_p1 n_this_evaluator n_this_locator n_this_powers n_this_slope : Nat) (f_p0 : Nat → Int32) (f_p1 : Nat → Int32) (f_this_evaluator : Nat → Int32) (f_this_locator : Nat → Int32) (f_this_powers : Nat → Int32) (f_this_slope : Nat → Int32) {r : Int32 × (Nat → Int32)} (h : im_X0_correct i_this_length n_p0 n_p1 n_this_evaluator n_this_locator n_this_powers n_this_slope f_p0 f_p1 f_this_evaluator f_this_locator f_this_powers f_this_slope = some r) : Met l yX0_correct wsX0_correct rm_X0_correct (va_Pc [.ref a_this, .ref a_p0, .ref a_p1] (fun U => U.heap.size = sz ∧ va_P (dC, dI) vwCl [(a_this, .inr (1, [.int i_this_length, .int i_this_checks, .ref a_this_generator, .ref a_this_powers, .ref a_this_syndromes, .ref a_this_locator, .ref a_this_former, .ref a_this_next, .ref a_this_evaluator, .ref a_this_slope])), (a_p0, .inl (cI, n_p0, .inl f_p0)), (a_p1, .inl (cZ, n_p1, .inl f_p1)), (a_this_evaluator, .inl (cI, n_this_evaluator, .inl f_this_evaluator)), (a_this_locator, .inl (cI, n_this_locator, .inl f_this_locator)), (a_this_powers, .inl (cI, n_this_powers, .inl f_this_powers)), (a_this_slope, .inl (cI, n_this_slope, .inl f_this_slope))] U.heap ∧ va_K (dC, dI) vwCl [(cI, .int), (cJ, .long), (cZ, .boolean)] U ∧ va_D (fun _ => True) [(a_this, .inr (1, [.int i_this_length, .int i_this_checks, .ref a_this_generator, .ref a_this_powers, .ref a_this_syndromes, .ref a_this_locator, .ref a_this_former, .ref a_this_next, .ref a_this_evaluator, .ref a_this_slope])), (a_p0, .inl (cI, n_p0, .inl f_p0)), (a_p1, .inl (cZ, n_p1, .inl f_p1)), (a_this_evaluator, .inl (cI, n_this_evaluator, .inl f_this_evaluator)), (a_this_locator, .inl (cI, n_this_locator, .inl f_this_locator)), (a_this_powers, .inl (cI, n_this_powers, .inl f_this_powers)), (a_this_slope, .inl (cI, n_this_slope, .inl f_this_slope))])) (va_Qi (S := (Nat → Int32)) (fun r9 u9 => (r9, u9) = r) (fun u9 t9 => va_P (dC, dI) vwCl [(a_this, .inr (1, [.int i_this_length, .int i_this_checks, .ref a_this_generator, .ref a_this_powers, .ref a_this_syndromes, .ref a_this_locator, .ref a_this_former, .ref a_this_next, .ref a_this_evaluator, .ref a_this_slope])), (a_p0, .inl (cI, n_p0, .inl (u9))), (a_p1, .inl (cZ, n_p1, .inl f_p1)), (a_this_evaluator, .inl (cI, n_this_evaluator, .inl f_this_evaluator)), (a_this_locator, .inl (cI, n_this_locator, .inl f_this_locator)), (a_this_powers, .inl (cI, n_this_powers, .inl f_this_powers)), (a_this_slope, .inl (cI, n_this_slope, .inl f_this_slope))] t9.heap ∧ va_K (dC, dI) vwCl [(cI, .int), (cJ, .long), (cZ, .boolean)] t9 ∧ va_D (va_A [(a_this, .inr (1, [.int i_this_length, .int i_this_checks, .ref a_this_generator, .ref a_this_powers, .ref a_this_syndromes, .ref a_this_locator, .ref a_this_former, .ref a_this_next, .ref a_this_evaluator, .ref a_this_slope])), (a_p0, .inl (cI, n_p0, .inl f_p0)), (a_p1, .inl (cZ, n_p1, .inl f_p1)), (a_this_evaluator, .inl (cI, n_this_evaluator, .inl f_this_evaluator)), (a_this_locator, .inl (cI, n_this_locator, .inl f_this_locator)), (a_this_powers, .inl (cI, n_this_powers, .inl f_this_powers)), (a_this_slope, .inl (cI, n_this_slope, .inl f_this_slope))] sz) [(a_this, .inr (1, [.int i_this_length, .int i_this_checks, .ref a_this_generator, .ref a_this_powers, .ref a_this_syndromes, .ref a_this_locator, .ref a_this_former, .ref a_this_next, .ref a_this_evaluator, .ref a_this_slope])), (a_p0, .inl (cI, n_p0, .inl (u9))), (a_p1, .inl (cZ, n_p1, .inl f_p1)), (a_this_evaluator, .inl (cI, n_this_evaluator, .inl f_this_evaluator)), (a_this_locator, .inl (cI, n_this_locator, .inl f_this_locator)), (a_this_powers, .inl (cI, n_this_powers, .inl f_this_powers)), (a_this_slope, .inl (cI, n_this_slope, .inl f_this_slope))]) (va_A [(a_this, .inr (1, [.int i_this_length, .int i_this_checks, .ref a_this_generator, .ref a_this_powers, .ref a_this_syndromes, .ref a_this_locator, .ref a_this_former, .ref a_this_next, .ref a_this_evaluator, .ref a_this_slope])), (a_p0, .inl (cI, n_p0, .inl f_p0)), (a_p1, .inl (cZ, n_p1, .inl f_p1)), (a_this_evaluator, .inl (cI, n_this_evaluator, .inl f_this_evaluator)), (a_this_locator, .inl (cI, n_this_locator, .inl f_this_locator)), (a_this_powers, .inl (cI, n_this_powers, .inl f_this_powers)), (a_this_slope, .inl (cI, n_this_slope, .inl f_this_slope))] sz)) 0 0 (va_A [(a_this, .inr (1, [.int i_this_length, .int i_this_checks, .ref a_this_generator, .ref a_this_powers, .ref a_this_syndromes, .ref a_this_locator, .ref a_this_former, .ref a_this_next, .ref a_this_evaluator, .ref a_this_slope])), (a_p0, .inl (cI, n_p0, .inl f_p0)), (a_p1, .inl (cZ, n_p1, .inl f_p1)), (a_this_evaluator, .inl (cI, n_this_evaluator, .inl f_this_evaluator)), (a_this_locator, .inl (cI, n_this_locator, .inl f_this_locator)), (a_this_powers, .inl (cI, n_this_powers, .inl f_this_powers)), (a_this_slope, .inl (cI, n_this_slope, .inl f_this_slope))] sz) := by
  refine Met.ofW (cc := cX0_correct) (maxL := 8) (ret := (some .int)) (by decide) rfl ?_
  intro p e s m args below meth c s₁ B hml hv
  obtain ⟨eargs, hsz, hP, hK, hD0⟩ := hv
  have hx := B.exec
  have hb := B.bytes
  have hr := B.returns
  have hts := atoms_spec (ws := wsX0_correct) B.pre
  have hown : s.vm.findClass RX0 = some m.cls := findClass_of_methodNamed B.named
  have hlocks := B.notSynchronized
  refine im_Q (fun Q eQ => ?_)
  subst hsz
  have hD := hD0.self (sz := s.heap.size)
  generalize hAe : va_A [(a_this, .inr (1, [.int i_this_length, .int i_this_checks, .ref a_this_generator, .ref a_this_powers, .ref a_this_syndromes, .ref a_this_locator, .ref a_this_former, .ref a_this_next, .ref a_this_evaluator, .ref a_this_slope])), (a_p0, .inl (cI, n_p0, .inl f_p0)), (a_p1, .inl (cZ, n_p1, .inl f_p1)), (a_this_evaluator, .inl (cI, n_this_evaluator, .inl f_this_evaluator)), (a_this_locator, .inl (cI, n_this_locator, .inl f_this_locator)), (a_this_powers, .inl (cI, n_this_powers, .inl f_this_powers)), (a_this_slope, .inl (cI, n_this_slope, .inl f_this_slope))] s.heap.size = A at hD eQ
  have hA : ∀ q : Nat, s.heap.size ≤ q → A q := fun q h => by rw [← hAe]; exact Or.inr h
  have hS : va_S A s.heap s.heap [] := va_S.rf
  have hl := lv_entry [.ref a_this, .ref a_p0, .ref a_p1] (n := 8) (Nat.le_of_ble_eq_true rfl)
  rw [show entryFrame m args 8 = entryFrame m ([.ref a_this, .ref a_p0, .ref a_p1] : List Value).toArray 8 by rw [eargs], lg_entry_eq]
  generalize (lg_sl ([.ref a_this, .ref a_p0, .ref a_p1]) ++ List.replicate (8 - (lg_sl ([.ref a_this, .ref a_p0, .ref a_p1])).length) Slot.unset).toArray = ls at hl ⊢
  have hl : lv_has ls 8 [(0, .ref a_this), (1, .ref a_p0), (2, .ref a_p1)] := hl
  rw [im_X0_correct] at h
  refine lv_iconst (v := (0 : Int32)) hx hb dX0_correct_0 (by decide) ?_
  refine lv_istore_n (lv' := [(3, .int (0 : Int32)), (0, .ref a_this), (1, .ref a_p0), (2, .ref a_p1)]) hx hb dX0_correct_1 rfl hl (by decide) rfl (fun ls hl => ?_)
  refine lv_iconst (v := (0 : Int32)) hx hb dX0_correct_2 (by decide) ?_
  refine lv_istore (lv' := [(4, .int (0 : Int32)), (3, .int (0 : Int32)), (0, .ref a_this), (1, .ref a_p0), (2, .ref a_p1)]) hx hb dX0_correct_3 hl (by decide) rfl (fun ls hl => ?_)
  have Lp4 : ∀ (n : Nat) (v1 : Int32) (v2 : Int32) (f3 : Nat → Int32), im_X0_correct_L5 i_this_length n_this_powers f_this_powers n_this_locator f_this_locator n_this_slope f_this_slope n_this_evaluator f_this_evaluator n_p0 n_p1 f_p1 n v1 v2 f3 = some r → ∀ (H : Heap) (locs : List Loc) (ls : Array Slot), va_P (dC, dI) vwCl [(a_this, .inr (1, [.int i_this_length, .int i_this_checks, .ref a_this_generator, .ref a_this_powers, .ref a_this_syndromes, .ref a_this_locator, .ref a_this_former, .ref a_this_next, .ref a_this_evaluator, .ref a_this_slope])), (a_p0, .inl (cI, n_p0, .inl f3)), (a_p1, .inl (cZ, n_p1, .inl f_p1)), (a_this_evaluator, .inl (cI, n_this_evaluator, .inl f_this_evaluator)), (a_this_locator, .inl (cI, n_this_locator, .inl f_this_locator)), (a_this_powers, .inl (cI, n_this_powers, .inl f_this_powers)), (a_this_slope, .inl (cI, n_this_slope, .inl f_this_slope))] H → va_D A [(a_this, .inr (1, [.int i_this_length, .int i_this_checks, .ref a_this_generator, .ref a_this_powers, .ref a_this_syndromes, .ref a_this_locator, .ref a_this_former, .ref a_this_next, .ref a_this_evaluator, .ref a_this_slope])), (a_p0, .inl (cI, n_p0, .inl f3)), (a_p1, .inl (cZ, n_p1, .inl f_p1)), (a_this_evaluator, .inl (cI, n_this_evaluator, .inl f_this_evaluator)), (a_this_locator, .inl (cI, n_this_locator, .inl f_this_locator)), (a_this_powers, .inl (cI, n_this_powers, .inl f_this_powers)), (a_this_slope, .inl (cI, n_this_slope, .inl f_this_slope))] → va_S A s.heap H locs → lv_has ls 8 [(0, .ref a_this), (1, .ref a_p0), (2, .ref a_p1), (3, .int v1), (4, .int v2)] → W p l e (headSpec wsX0_correct rm_X0_correct).room s m args below meth c H locs 0 0 Q (F0 m 5 ls []) := by
    intro n
    induction n with
    | zero => intro v1 v2 f3 h; rw [im_X0_correct_L5] at h; cases h
    | succ n ih =>
      intro v1 v2 f3 h H locs ls hP hD hS hl
      rw [im_X0_correct_L5] at h
      refine lv_iload hx hb dX0_correct_5 (lv_at hl 4 rfl) ?_
      refine lv_aload_n hx hb dX0_correct_7 rfl (lv_at hl 0 rfl) ?_
      refine va_get (D := (dC, dI)) (ci := 1) (v := .int i_this_length) (C := RX0) (T := TX0) (N := 10) hx hb hts hn_X0_correct_X0 hown hK hP 0 rfl rfl 0 (by decide) (hts _ fl_X0_correct_9) (fun _ h9 => h9) rfl dX0_correct_8 ?_
      refine lv_icmp_ge (tgt := 103) hx hb dX0_correct_11 (by decide) (fun c11 => ?_) (fun c11 => ?_)
      · replace h := im_t c11 h
        refine lv_iload_n hx hb dX0_correct_103 rfl (lv_at hl 3 rfl) ?_
        rw [eQ]
        exact W.iret (v := v1) hx hb hr (fun t ht hW => ⟨⟨_, f3, rfl, Option.some.inj h, by rw [ht]; exact hP, va_K.moved hW.alike hK, hD⟩, hS.F ht⟩) hS.2.2 dX0_correct_104
      · replace h := im_f c11 h
        refine im_j2_u (P := fun v5 f6 => ∀ (H : Heap) (locs : List Loc) (ls : Array Slot), va_P (dC, dI) vwCl [(a_this, .inr (1, [.int i_this_length, .int i_this_checks, .ref a_this_generator, .ref a_this_powers, .ref a_this_syndromes, .ref a_this_locator, .ref a_this_former, .ref a_this_next, .ref a_this_evaluator, .ref a_this_slope])), (a_p0, .inl (cI, n_p0, .inl f6)), (a_p1, .inl (cZ, n_p1, .inl f_p1)), (a_this_evaluator, .inl (cI, n_this_evaluator, .inl f_this_evaluator)), (a_this_locator, .inl (cI, n_this_locator, .inl f_this_locator)), (a_this_powers, .inl (cI, n_this_powers, .inl f_this_powers)), (a_this_slope, .inl (cI, n_this_slope, .inl f_this_slope))] H → va_D A [(a_this, .inr (1, [.int i_this_length, .int i_this_checks, .ref a_this_generator, .ref a_this_powers, .ref a_this_syndromes, .ref a_this_locator, .ref a_this_former, .ref a_this_next, .ref a_this_evaluator, .ref a_this_slope])), (a_p0, .inl (cI, n_p0, .inl f6)), (a_p1, .inl (cZ, n_p1, .inl f_p1)), (a_this_evaluator, .inl (cI, n_this_evaluator, .inl f_this_evaluator)), (a_this_locator, .inl (cI, n_this_locator, .inl f_this_locator)), (a_this_powers, .inl (cI, n_this_powers, .inl f_this_powers)), (a_this_slope, .inl (cI, n_this_slope, .inl f_this_slope))] → va_S A s.heap H locs → lv_has ls 8 [(0, .ref a_this), (1, .ref a_p0), (2, .ref a_p1), (3, .int v5), (4, .int v2)] → W p l e (headSpec wsX0_correct rm_X0_correct).room s m args below meth c H locs 0 0 Q (F0 m 97 ls [])) h (fun v5 f6 h H locs ls hP hD hS hl => ?_) (fun K7 J7 h => ?_)
        · obtain ⟨v8, ev8⟩ : ∃ y : Int32, y = (v2 + (1 : Int32)) := ⟨_, rfl⟩
          replace h := im_lt_u h v8 ev8
          refine lv_iinc (v := v8) (lv' := [(4, .int v8), (0, .ref a_this), (1, .ref a_p0), (2, .ref a_p1), (3, .int v5)]) hx hb dX0_correct_97 hl (k := 4) rfl (by rw [ev8]; rfl) (by decide) rfl (fun ls hl => ?_)
          refine lv_goto (tgt := 5) hx hb dX0_correct_100 (by decide) ?_
          exact ih v5 v8 f6 h _ _ _ hP hD hS (lv_sub hl [1, 2, 3, 4, 0] rfl)
        · refine lv_aload_n hx hb dX0_correct_14 rfl (lv_at hl 0 rfl) ?_
          refine va_get (D := (dC, dI)) (ci := 1) (v := .ref a_this_powers) (C := RX0) (T := TX0) (N := 10) hx hb hts hn_X0_correct_X0 hown hK hP 0 rfl rfl 3 (by decide) (hts _ fl_X0_correct_22) (fun _ h9 => h9) rfl dX0_correct_15 ?_
          refine lv_iload hx hb dX0_correct_18 (lv_at hl 4 rfl) ?_
          obtain ⟨q20, h⟩ := im_ld_u h
          refine va_iald hx hb hK hP 5 0 rfl rfl q20 dX0_correct_20 ?_
          refine lv_topi (fun v9 ev9 => ?_)
          replace h := h v9 ev9
          obtain ⟨v10, y21, h⟩ := im_b1_u h
          refine vp_callSi (W.runS (As := [.int v9]) (rest := []) ⟨hx, hb, hml, hown, hts⟩ (c_X1_inverse l v9 y21) (va_cwS 1 hts gX0_correct_X1_inverse rfl rfl rfl (by decide +kernel) ⟨Nat.le_of_ble_eq_true rfl, Nat.le_of_ble_eq_true rfl⟩) ⟨fun _ _ _ _ q => q, fun U hU hW => ⟨rfl, trivial⟩⟩ rfl rfl hl.1 rfl (lv_room (Nat.le_of_ble_eq_true rfl)) dX0_correct_21 ⟨Nat.zero_le _, Nat.zero_le _⟩) (fun w21 ew21 => ?_)
          have ew21 := ew21.symm
          subst ew21
          refine lv_istore (lv' := [(5, .int v10), (0, .ref a_this), (1, .ref a_p0), (2, .ref a_p1), (3, .int v1), (4, .int v2)]) hx hb dX0_correct_24 hl (by decide) rfl (fun ls hl => ?_)
          refine lv_iload hx hb dX0_correct_26 (lv_at hl 0 rfl) ?_
          refine lv_aload_n hx hb dX0_correct_28 rfl (lv_at hl 1 rfl) ?_
          refine va_get (D := (dC, dI)) (ci := 1) (v := .ref a_this_locator) (C := RX0) (T := TX0) (N := 10) hx hb hts hn_X0_correct_X0 hown hK hP 0 rfl rfl 5 (by decide) (hts _ fl_X0_correct_28) (fun _ h9 => h9) rfl dX0_correct_29 ?_
          obtain ⟨v11, y32, h⟩ := im_b1_u h
          have hPc := hP.sub (ws' := [(a_this_locator, .inl (cI, n_this_locator, .inl f_this_locator))]) [4] rfl
          refine vp_callSi (W.runS (As := [.int v10, .ref a_this_locator]) (rest := []) ⟨hx, hb, hml, hown, hts⟩ (c_X1_valueAt l dC dI cI cJ cZ a_this_locator n_this_locator f_this_locator v10 y32) (va_cwS 2 hts gX0_correct_X1_valueAt rfl rfl rfl (by decide +kernel) ⟨Nat.le_of_ble_eq_true rfl, Nat.le_of_ble_eq_true rfl⟩) ⟨fun a U g mk q => by obtain ⟨q0, qP, qK⟩ := q; exact ⟨q0, qP, va_K.moved (u := U) (U := U.calling g mk a) (Vm.Alike.refl U.vm) qK⟩, fun U hU hW => ⟨rfl, by rw [hU]; exact hPc, va_K.moved hW.alike hK⟩⟩ rfl rfl hl.1 rfl (lv_room (Nat.le_of_ble_eq_true rfl)) dX0_correct_32 ⟨Nat.zero_le _, Nat.zero_le _⟩) (fun w32 ew32 => ?_)
          have ew32 := ew32.symm
          subst ew32
          refine lv_if_ne (tgt := 97) hx hb dX0_correct_35 (by decide) (fun c35 => ?_) (fun c35 => ?_)
          · replace h := im_f c35 h
            exact J7 v1 f3 h _ _ _ hP hD hS (lv_sub hl [1, 2, 3, 4, 5] rfl)
          · replace h := im_t c35 h
            refine im_j3_u (P := fun v12 v13 f14 => ∀ (H : Heap) (locs : List Loc) (ls : Array Slot), va_P (dC, dI) vwCl [(a_this, .inr (1, [.int i_this_length, .int i_this_checks, .ref a_this_generator, .ref a_this_powers, .ref a_this_syndromes, .ref a_this_locator, .ref a_this_former, .ref a_this_next, .ref a_this_evaluator, .ref a_this_slope])), (a_p0, .inl (cI, n_p0, .inl f14)), (a_p1, .inl (cZ, n_p1, .inl f_p1)), (a_this_evaluator, .inl (cI, n_this_evaluator, .inl f_this_evaluator)), (a_this_locator, .inl (cI, n_this_locator, .inl f_this_locator)), (a_this_powers, .inl (cI, n_this_powers, .inl f_this_powers)), (a_this_slope, .inl (cI, n_this_slope, .inl f_this_slope))] H → va_D A [(a_this, .inr (1, [.int i_this_length, .int i_this_checks, .ref a_this_generator, .ref a_this_powers, .ref a_this_syndromes, .ref a_this_locator, .ref a_this_former, .ref a_this_next, .ref a_this_evaluator, .ref a_this_slope])), (a_p0, .inl (cI, n_p0, .inl f14)), (a_p1, .inl (cZ, n_p1, .inl f_p1)), (a_this_evaluator, .inl (cI, n_this_evaluator, .inl f_this_evaluator)), (a_this_locator, .inl (cI, n_this_locator, .inl f_this_locator)), (a_this_powers, .inl (cI, n_this_powers, .inl f_this_powers)), (a_this_slope, .inl (cI, n_this_slope, .inl f_this_slope))] → va_S A s.heap H locs → lv_has ls 8 [(0, .ref a_this), (1, .ref a_p0), (2, .ref a_p1), (4, .int v2)] → W p l e (headSpec wsX0_correct rm_X0_correct).room s m args below meth c H locs 0 0 Q (F0 m 95 ls [.int v12, .int v13])) h (fun v12 v13 f14 h H locs ls hP hD hS hl => ?_) (fun K15 J15 h => ?_)
            · refine lv_iadd hx hb dX0_correct_95 ?_
              refine lv_topi (fun v16 ev16 => ?_)
              replace h := im_lt_u h v16 ev16
              refine lv_istore_n (lv' := [(3, .int v16), (0, .ref a_this), (1, .ref a_p0), (2, .ref a_p1), (4, .int v2)]) hx hb dX0_correct_96 rfl hl (by decide) rfl (fun ls hl => ?_)
              exact J7 v16 f14 h _ _ _ hP hD hS (lv_sub hl [1, 2, 3, 0, 4] rfl)
            · refine im_j2_u (P := fun v17 f18 => ∀ (H : Heap) (locs : List Loc) (ls : Array Slot), va_P (dC, dI) vwCl [(a_this, .inr (1, [.int i_this_length, .int i_this_checks, .ref a_this_generator, .ref a_this_powers, .ref a_this_syndromes, .ref a_this_locator, .ref a_this_former, .ref a_this_next, .ref a_this_evaluator, .ref a_this_slope])), (a_p0, .inl (cI, n_p0, .inl f18)), (a_p1, .inl (cZ, n_p1, .inl f_p1)), (a_this_evaluator, .inl (cI, n_this_evaluator, .inl f_this_evaluator)), (a_this_locator, .inl (cI, n_this_locator, .inl f_this_locator)), (a_this_powers, .inl (cI, n_this_powers, .inl f_this_powers)), (a_this_slope, .inl (cI, n_this_slope, .inl f_this_slope))] H → va_D A [(a_this, .inr (1, [.int i_this_length, .int i_this_checks, .ref a_this_generator, .ref a_this_powers, .ref a_this_syndromes, .ref a_this_locator, .ref a_this_former, .ref a_this_next, .ref a_this_evaluator, .ref a_this_slope])), (a_p0, .inl (cI, n_p0, .inl f18)), (a_p1, .inl (cZ, n_p1, .inl f_p1)), (a_this_evaluator, .inl (cI, n_this_evaluator, .inl f_this_evaluator)), (a_this_locator, .inl (cI, n_this_locator, .inl f_this_locator)), (a_this_powers, .inl (cI, n_this_powers, .inl f_this_powers)), (a_this_slope, .inl (cI, n_this_slope, .inl f_this_slope))] → va_S A s.heap H locs → lv_has ls 8 [(0, .ref a_this), (1, .ref a_p0), (2, .ref a_p1), (4, .int v2)] → W p l e (headSpec wsX0_correct rm_X0_correct).room s m args below meth c H locs 0 0 Q (F0 m 94 ls [.int v17])) h (fun v17 f18 h H locs ls hP hD hS hl => ?_) (fun K19 J19 h => ?_)
              · refine lv_iconst (v := (0 : Int32)) hx hb dX0_correct_94 (by decide) ?_
                exact J15 (0 : Int32) v17 f18 h _ _ _ hP hD hS (lv_sub hl [0, 1, 2, 3] rfl)
              · refine lv_iload hx hb dX0_correct_38 (lv_at hl 0 rfl) ?_
                refine lv_aload_n hx hb dX0_correct_40 rfl (lv_at hl 1 rfl) ?_
                refine va_get (D := (dC, dI)) (ci := 1) (v := .ref a_this_slope) (C := RX0) (T := TX0) (N := 10) hx hb hts hn_X0_correct_X0 hown hK hP 0 rfl rfl 9 (by decide) (hts _ fl_X0_correct_40) (fun _ h9 => h9) rfl dX0_correct_41 ?_
                obtain ⟨v20, y44, h⟩ := im_b1_u h
                have hPc := hP.sub (ws' := [(a_this_slope, .inl (cI, n_this_slope, .inl f_this_slope))]) [6] rfl
                refine vp_callSi (W.runS (As := [.int v10, .ref a_this_slope]) (rest := []) ⟨hx, hb, hml, hown, hts⟩ (c_X1_valueAt l dC dI cI cJ cZ a_this_slope n_this_slope f_this_slope v10 y44) (va_cwS 2 hts gX0_correct_X1_valueAt rfl rfl rfl (by decide +kernel) ⟨Nat.le_of_ble_eq_true rfl, Nat.le_of_ble_eq_true rfl⟩) ⟨fun a U g mk q => by obtain ⟨q0, qP, qK⟩ := q; exact ⟨q0, qP, va_K.moved (u := U) (U := U.calling g mk a) (Vm.Alike.refl U.vm) qK⟩, fun U hU hW => ⟨rfl, by rw [hU]; exact hPc, va_K.moved hW.alike hK⟩⟩ rfl rfl hl.1 rfl (lv_room (Nat.le_of_ble_eq_true rfl)) dX0_correct_44 ⟨Nat.zero_le _, Nat.zero_le _⟩) (fun w44 ew44 => ?_)
                have ew44 := ew44.symm
                subst ew44
                refine lv_istore (lv' := [(6, .int v20), (5, .int v10), (0, .ref a_this), (1, .ref a_p0), (2, .ref a_p1), (3, .int v1), (4, .int v2)]) hx hb dX0_correct_47 hl (by decide) rfl (fun ls hl => ?_)
                refine lv_iload hx hb dX0_correct_49 (lv_at hl 1 rfl) ?_
                refine lv_aload_n hx hb dX0_correct_51 rfl (lv_at hl 2 rfl) ?_
                refine va_get (D := (dC, dI)) (ci := 1) (v := .ref a_this_evaluator) (C := RX0) (T := TX0) (N := 10) hx hb hts hn_X0_correct_X0 hown hK hP 0 rfl rfl 8 (by decide) (hts _ fl_X0_correct_37) (fun _ h9 => h9) rfl dX0_correct_52 ?_
                obtain ⟨v21, y55, h⟩ := im_b1_u h
                have hPc := hP.sub (ws' := [(a_this_evaluator, .inl (cI, n_this_evaluator, .inl f_this_evaluator))]) [3] rfl
                refine vp_callSi (W.runS (As := [.int v10, .ref a_this_evaluator]) (rest := []) ⟨hx, hb, hml, hown, hts⟩ (c_X1_valueAt l dC dI cI cJ cZ a_this_evaluator n_this_evaluator f_this_evaluator v10 y55) (va_cwS 2 hts gX0_correct_X1_valueAt rfl rfl rfl (by decide +kernel) ⟨Nat.le_of_ble_eq_true rfl, Nat.le_of_ble_eq_true rfl⟩) ⟨fun a U g mk q => by obtain ⟨q0, qP, qK⟩ := q; exact ⟨q0, qP, va_K.moved (u := U) (U := U.calling g mk a) (Vm.Alike.refl U.vm) qK⟩, fun U hU hW => ⟨rfl, by rw [hU]; exact hPc, va_K.moved hW.alike hK⟩⟩ rfl rfl hl.1 rfl (lv_room (Nat.le_of_ble_eq_true rfl)) dX0_correct_55 ⟨Nat.zero_le _, Nat.zero_le _⟩) (fun w55 ew55 => ?_)
                have ew55 := ew55.symm
                subst ew55
                refine lv_iload hx hb dX0_correct_58 (lv_at hl 0 rfl) ?_
                obtain ⟨v22, y60, h⟩ := im_b1_u h
                refine vp_callSi (W.runS (As := [.int v20]) (rest := [.int v21]) ⟨hx, hb, hml, hown, hts⟩ (c_X1_inverse l v20 y60) (va_cwS 1 hts gX0_correct_X1_inverse rfl rfl rfl (by decide +kernel) ⟨Nat.le_of_ble_eq_true rfl, Nat.le_of_ble_eq_true rfl⟩) ⟨fun _ _ _ _ q => q, fun U hU hW => ⟨rfl, trivial⟩⟩ rfl rfl hl.1 rfl (lv_room (Nat.le_of_ble_eq_true rfl)) dX0_correct_60 ⟨Nat.zero_le _, Nat.zero_le _⟩) (fun w60 ew60 => ?_)
                have ew60 := ew60.symm
                subst ew60
                obtain ⟨v23, y63, h⟩ := im_b1_u h
                refine vp_callSi (W.runS (As := [.int v21, .int v22]) (rest := []) ⟨hx, hb, hml, hown, hts⟩ (c_X1_product l v21 v22 y63) (va_cwS 2 hts gX0_correct_X1_product rfl rfl rfl (by decide +kernel) ⟨Nat.le_of_ble_eq_true rfl, Nat.le_of_ble_eq_true rfl⟩) ⟨fun _ _ _ _ q => q, fun U hU hW => ⟨rfl, trivial⟩⟩ rfl rfl hl.1 rfl (lv_room (Nat.le_of_ble_eq_true rfl)) dX0_correct_63 ⟨Nat.zero_le _, Nat.zero_le _⟩) (fun w63 ew63 => ?_)
                have ew63 := ew63.symm
                subst ew63
                refine lv_istore (lv' := [(7, .int v23), (6, .int v20), (5, .int v10), (0, .ref a_this), (1, .ref a_p0), (2, .ref a_p1), (3, .int v1), (4, .int v2)]) hx hb dX0_correct_66 hl (by decide) rfl (fun ls hl => ?_)
                refine lv_aload_n hx hb dX0_correct_68 rfl (lv_at hl 4 rfl) ?_
                refine lv_iload hx hb dX0_correct_69 (lv_at hl 7 rfl) ?_
                refine lv_dup2_11 hx hb dX0_correct_71 rfl rfl ?_
                obtain ⟨q72, h⟩ := im_ld_u h
                refine va_iald hx hb hK hP 1 0 rfl rfl q72 dX0_correct_72 ?_
                refine lv_topi (fun v24 ev24 => ?_)
                replace h := h v24 ev24
                refine lv_iload hx hb dX0_correct_73 (lv_at hl 0 rfl) ?_
                refine lv_ixor hx hb dX0_correct_75 ?_
                refine lv_topi (fun v25 ev25 => ?_)
                replace h := im_lt_u h v25 ev25
                obtain ⟨q76, h⟩ := im_st_u h
                refine va_iast hx hb hK hP hD hS 1 0 rfl rfl q76 dX0_correct_76 (fun H locs hP hD hS => ?_)
                obtain ⟨f26, ef26⟩ : ∃ g : Nat → Int32, g = upd f3 v2.toNatClampNeg v25 := ⟨_, rfl⟩
                replace h := h f26 ef26
                rw [← ef26] at hP hD
                have hP : va_P (dC, dI) vwCl [(a_this, .inr (1, [.int i_this_length, .int i_this_checks, .ref a_this_generator, .ref a_this_powers, .ref a_this_syndromes, .ref a_this_locator, .ref a_this_former, .ref a_this_next, .ref a_this_evaluator, .ref a_this_slope])), (a_p0, .inl (cI, n_p0, .inl f26)), (a_p1, .inl (cZ, n_p1, .inl f_p1)), (a_this_evaluator, .inl (cI, n_this_evaluator, .inl f_this_evaluator)), (a_this_locator, .inl (cI, n_this_locator, .inl f_this_locator)), (a_this_powers, .inl (cI, n_this_powers, .inl f_this_powers)), (a_this_slope, .inl (cI, n_this_slope, .inl f_this_slope))] H := hP
                have hD : va_D A [(a_this, .inr (1, [.int i_this_length, .int i_this_checks, .ref a_this_generator, .ref a_this_powers, .ref a_this_syndromes, .ref a_this_locator, .ref a_this_former, .ref a_this_next, .ref a_this_evaluator, .ref a_this_slope])), (a_p0, .inl (cI, n_p0, .inl f26)), (a_p1, .inl (cZ, n_p1, .inl f_p1)), (a_this_evaluator, .inl (cI, n_this_evaluator, .inl f_this_evaluator)), (a_this_locator, .inl (cI, n_this_locator, .inl f_this_locator)), (a_this_powers, .inl (cI, n_this_powers, .inl f_this_powers)), (a_this_slope, .inl (cI, n_this_slope, .inl f_this_slope))] := hD
                refine lv_iload_n hx hb dX0_correct_77 rfl (lv_at hl 6 rfl) ?_
                refine lv_iload hx hb dX0_correct_78 (lv_at hl 0 rfl) ?_
                refine lv_if_eq (tgt := 94) hx hb dX0_correct_80 (by decide) (fun c80 => ?_) (fun c80 => ?_)
                · replace h := im_t c80 h
                  exact J19 v1 f26 h _ _ _ hP hD hS (lv_sub hl [3, 4, 5, 7] rfl)
                · replace h := im_f c80 h
                  refine lv_aload_n hx hb dX0_correct_83 rfl (lv_at hl 5 rfl) ?_
                  refine lv_iload hx hb dX0_correct_84 (lv_at hl 7 rfl) ?_
                  obtain ⟨q86, h⟩ := im_ld_u h
                  refine va_zald hx hb hK hP 2 2 rfl rfl q86 dX0_correct_86 ?_
                  refine lv_topi (fun v27 ev27 => ?_)
                  replace h := h v27 ev27
                  refine lv_if_ne (tgt := 94) hx hb dX0_correct_87 (by decide) (fun c87 => ?_) (fun c87 => ?_)
                  · replace h := im_f c87 h
                    exact J19 v1 f26 h _ _ _ hP hD hS (lv_sub hl [3, 4, 5, 7] rfl)
                  · replace h := im_t c87 h
                    refine lv_iconst (v := (1 : Int32)) hx hb dX0_correct_90 (by decide) ?_
                    refine lv_goto (tgt := 95) hx hb dX0_correct_91 (by decide) ?_
                    exact J15 (1 : Int32) v1 f26 h _ _ _ hP hD hS (lv_sub hl [3, 4, 5, 7] rfl)
  exact Lp4 5000 (0 : Int32) (0 : Int32) f_p0 h _ _ _ hP hD hS (lv_sub hl [2, 3, 4, 1, 0] rfl)
def im_X0_mend (i_this_length : Int32) (i_this_checks : Int32) (n_p0 : Nat) (n_p1 : Nat) (n_this_evaluator : Nat) (n_this_former : Nat) (n_this_locator : Nat) (n_this_next : Nat) (n_this_powers : Nat) (n_this_slope : Nat) (n_this_syndromes : Nat) (f_p0 : Nat → Int32) (f_p1 : Nat → Int32) (f_this_evaluator : Nat → Int32) (f_this_former : Nat → Int32) (f_this_locator : Nat → Int32) (f_this_next : Nat → Int32) (f_this_powers : Nat → Int32) (f_this_slope : Nat → Int32) (f_this_syndromes : Nat → Int32) : Option (Int32 × (Nat → Int32) × (Nat → Int32) × (Nat → Int32) × (Nat → Int32) × (Nat → Int32) × (Nat → Int32) × (Nat → Int32)) := im_b1 (im_X0_countLost i_this_length n_p1 f_p1) (fun v1 => if v1 ≤ i_this_checks then im_j9 (fun (v2 : Int32) (v3 : Int32) (f4 : Nat → Int32) (f5 : Nat → Int32) (f6 : Nat → Int32) (f7 : Nat → Int32) (f8 : Nat → Int32) (f9 : Nat → Int32) (f10 : Nat → Int32) => if v3 = 0 then (some ((-1 : Int32), f4, f5, f6, f7, f8, f9, f10)) else im_lt (v2 + v1) (fun v12 => (some (v12, f4, f5, f6, f7, f8, f9, f10)))) (fun K11 => im_j8 (fun (v13 : Int32) (f14 : Nat → Int32) (f15 : Nat → Int32) (f16 : Nat → Int32) (f17 : Nat → Int32) (f18 : Nat → Int32) (f19 : Nat → Int32) (f20 : Nat → Int32) => (K11 v13 (0 : Int32) f14 f15 f16 f17 f18 f19 f20)) (fun K21 => im_b1 (im_X0_fillSyndromes i_this_length i_this_checks n_p0 n_this_syndromes f_p0 f_this_syndromes) (fun f22 => im_b1 (im_X0_locateLost i_this_length i_this_checks n_p1 n_this_locator n_this_powers f_p1 f_this_locator f_this_powers) (fun f23 => im_b3 (im_X0_locateWrong v1 i_this_checks n_this_former n_this_locator n_this_next n_this_syndromes f_this_former f23 f_this_next f22) (fun f24 f25 f26 => im_b1 (im_X0_fillEvaluator i_this_checks n_this_evaluator n_this_locator n_this_syndromes f_this_evaluator f25 f22) (fun f27 => im_b1 (im_X0_fillSlope i_this_checks n_this_locator n_this_slope f25 f_this_slope) (fun f28 => im_b2 (im_X0_correct i_this_length n_p0 n_p1 n_this_evaluator n_this_locator n_this_powers n_this_slope f_p0 f_p1 f27 f25 f_this_powers f28) (fun v29 f30 => im_b1 (im_X0_fillSyndromes i_this_length i_this_checks n_p0 n_this_syndromes f30 f22) (fun f31 => im_b1 (im_X0_allZero n_this_syndromes f31) (fun v32 => if v32 = 0 then (K21 v29 f30 f27 f24 f25 f26 f28 f31) else im_lt ((2 : Int32) * v29) (fun v33 => im_lt (v33 + v1) (fun v34 => if i_this_checks < v34 then (K21 v29 f30 f27 f24 f25 f26 f28 f31) else (K11 v29 (1 : Int32) f30 f27 f24 f25 f26 f28 f31))))))))))))) else (some ((-1 : Int32), f_p0, f_this_evaluator, f_this_former, f_this_locator, f_this_next, f_this_slope, f_this_syndromes)))
abbrev rm_X0_mend : Room := { frames := 4, cells := 0, slots := 0, locals := 109 }
theorem hn_X0_mend_X0 : ∀ w ∈ wsX00, w ∈ wsX0_mend := by decide +kernel
theorem fl_X0_mend_15 : Cond.fieldLink RX0 15 "BarCodes$CheckCode" "checks" "I" ∈ wsX0_mend := by decide +kernel
theorem fl_X0_mend_25 : Cond.fieldLink RX0 25 "BarCodes$CheckCode" "syndromes" "[I" ∈ wsX0_mend := by decide +kernel
set_option maxHeartbeats 4000000 in
set_option maxRecDepth 100000 in
theorem c_X0_mend (l : Launch) (dC : Nat → ClassId) (dI : Nat → Nat → Nat) (cI cJ cZ : ClassId) (sz : Nat) (a_this a_this_generator a_this_powers a_this_syndromes a_this_locator a_this_former a_this_next a_this_evaluator a_this_slope a_p0 a_p1 : Nat) (i_this_length i_this_checks : Int32) (n_p0 n_p1 n_this_evaluator n_this_former n_this_locator n_this_next n_this_powers n_this_slope n_this_syndromes : Nat) (f_p0 : Nat → Int32) (f_p1 : Nat → Int32) (f_this_evaluator : Nat → Int32) (f_this_former : Nat → Int32) (f_this_locator : Nat → Int32) (f_this_next : Nat → Int32) (f_this_powers : Nat → Int32) (f_this_slope : Nat → Int32) (f_this_syndromes : Nat → Int32) {r : Int32 × (Nat → Int32) × (Nat → Int32) × (Nat → Int32) × (Nat → Int32) × (Nat → Int32) × (Nat → Int32) × (Nat → Int32)} (h : im_X0_mend i_this_length i_this_checks n_p0 n_p1 n_this_evaluator n_this_former n_this_locator n_this_next n_this_powers n_this_slope n_this_syndromes f_p0 f_p1 f_this_evaluator f_this_former f_this_locator f_this_next f_this_powers f_this_slope f_this_syndromes = some r) : Met l yX0_mend wsX0_mend rm_X0_mend (va_Pc [.ref a_this, .ref a_p0, .ref a_p1] (fun U => U.heap.size = sz ∧ va_P (dC, dI) vwCl [(a_this, .inr (1, [.int i_this_length, .int i_this_checks, .ref a_this_generator, .ref a_this_powers, .ref a_this_syndromes, .ref a_this_locator, .ref a_this_former, .ref a_this_next, .ref a_this_evaluator, .ref a_this_slope])), (a_p0, .inl (cI, n_p0, .inl f_p0)), (a_p1, .inl (cZ, n_p1, .inl f_p1)), (a_this_evaluator, .inl (cI, n_this_evaluator, .inl f_this_evaluator)), (a_this_former, .inl (cI, n_this_former, .inl f_this_former)), (a_this_locator, .inl (cI, n_this_locator, .inl f_this_locator)), (a_this_next, .inl (cI, n_this_next, .inl f_this_next)), (a_this_powers, .inl (cI, n_this_powers, .inl f_this_powers)), (a_this_slope, .inl (cI, n_this_slope, .inl f_this_slope)), (a_this_syndromes, .inl (cI, n_this_syndromes, .inl f_this_syndromes))] U.heap ∧ va_K (dC, dI) vwCl [(cI, .int), (cJ, .long), (cZ, .boolean)] U ∧ va_D (fun _ => True) [(a_this, .inr (1, [.int i_this_length, .int i_this_checks, .ref a_this_generator, .ref a_this_powers, .ref a_this_syndromes, .ref a_this_locator, .ref a_this_former, .ref a_this_next, .ref a_this_evaluator, .ref a_this_slope])), (a_p0, .inl (cI, n_p0, .inl f_p0)), (a_p1, .inl (cZ, n_p1, .inl f_p1)), (a_this_evaluator, .inl (cI, n_this_evaluator, .inl f_this_evaluator)), (a_this_former, .inl (cI, n_this_former, .inl f_this_former)), (a_this_locator, .inl (cI, n_this_locator, .inl f_this_locator)), (a_this_next, .inl (cI, n_this_next, .inl f_this_next)), (a_this_powers, .inl (cI, n_this_powers, .inl f_this_powers)), (a_this_slope, .inl (cI, n_this_slope, .inl f_this_slope)), (a_this_syndromes, .inl (cI, n_this_syndromes, .inl f_this_syndromes))])) (va_Qi (S := (Nat → Int32) × (Nat → Int32) × (Nat → Int32) × (Nat → Int32) × (Nat → Int32) × (Nat → Int32) × (Nat → Int32)) (fun r9 u9 => (r9, u9) = r) (fun u9 t9 => va_P (dC, dI) vwCl [(a_this, .inr (1, [.int i_this_length, .int i_this_checks, .ref a_this_generator, .ref a_this_powers, .ref a_this_syndromes, .ref a_this_locator, .ref a_this_former, .ref a_this_next, .ref a_this_evaluator, .ref a_this_slope])), (a_p0, .inl (cI, n_p0, .inl (u9.1))), (a_p1, .inl (cZ, n_p1, .inl f_p1)), (a_this_evaluator, .inl (cI, n_this_evaluator, .inl (u9.2.1))), (a_this_former, .inl (cI, n_this_former, .inl (u9.2.2.1))), (a_this_locator, .inl (cI, n_this_locator, .inl (u9.2.2.2.1))), (a_this_next, .inl (cI, n_this_next, .inl (u9.2.2.2.2.1))), (a_this_powers, .inl (cI, n_this_powers, .inl f_this_powers)), (a_this_slope, .inl (cI, n_this_slope, .inl (u9.2.2.2.2.2.1))), (a_this_syndromes, .inl (cI, n_this_syndromes, .inl (u9.2.2.2.2.2.2)))] t9.heap ∧ va_K (dC, dI) vwCl [(cI, .int), (cJ, .long), (cZ, .boolean)] t9 ∧ va_D (va_A [(a_this, .inr (1, [.int i_this_length, .int i_this_checks, .ref a_this_generator, .ref a_this_powers, .ref a_this_syndromes, .ref a_this_locator, .ref a_this_former, .ref a_this_next, .ref a_this_evaluator, .ref a_this_slope])), (a_p0, .inl (cI, n_p0, .inl f_p0)), (a_p1, .inl (cZ, n_p1, .inl f_p1)), (a_this_evaluator, .inl (cI, n_this_evaluator, .inl f_this_evaluator)), (a_this_former, .inl (cI, n_this_former, .inl f_this_former)), (a_this_locator, .inl (cI, n_this_locator, .inl f_this_locator)), (a_this_next, .inl (cI, n_this_next, .inl f_this_next)), (a_this_powers, .inl (cI, n_this_powers, .inl f_this_powers)), (a_this_slope, .inl (cI, n_this_slope, .inl f_this_slope)), (a_this_syndromes, .inl (cI, n_this_syndromes, .inl f_this_syndromes))] sz) [(a_this, .inr (1, [.int i_this_length, .int i_this_checks, .ref a_this_generator, .ref a_this_powers, .ref a_this_syndromes, .ref a_this_locator, .ref a_this_former, .ref a_this_next, .ref a_this_evaluator, .ref a_this_slope])), (a_p0, .inl (cI, n_p0, .inl (u9.1))), (a_p1, .inl (cZ, n_p1, .inl f_p1)), (a_this_evaluator, .inl (cI, n_this_evaluator, .inl (u9.2.1))), (a_this_former, .inl (cI, n_this_former, .inl (u9.2.2.1))), (a_this_locator, .inl (cI, n_this_locator, .inl (u9.2.2.2.1))), (a_this_next, .inl (cI, n_this_next, .inl (u9.2.2.2.2.1))), (a_this_powers, .inl (cI, n_this_powers, .inl f_this_powers)), (a_this_slope, .inl (cI, n_this_slope, .inl (u9.2.2.2.2.2.1))), (a_this_syndromes, .inl (cI, n_this_syndromes, .inl (u9.2.2.2.2.2.2)))]) (va_A [(a_this, .inr (1, [.int i_this_length, .int i_this_checks, .ref a_this_generator, .ref a_this_powers, .ref a_this_syndromes, .ref a_this_locator, .ref a_this_former, .ref a_this_next, .ref a_this_evaluator, .ref a_this_slope])), (a_p0, .inl (cI, n_p0, .inl f_p0)), (a_p1, .inl (cZ, n_p1, .inl f_p1)), (a_this_evaluator, .inl (cI, n_this_evaluator, .inl f_this_evaluator)), (a_this_former, .inl (cI, n_this_former, .inl f_this_former)), (a_this_locator, .inl (cI, n_this_locator, .inl f_this_locator)), (a_this_next, .inl (cI, n_this_next, .inl f_this_next)), (a_this_powers, .inl (cI, n_this_powers, .inl f_this_powers)), (a_this_slope, .inl (cI, n_this_slope, .inl f_this_slope)), (a_this_syndromes, .inl (cI, n_this_syndromes, .inl f_this_syndromes))] sz)) 0 0 (va_A [(a_this, .inr (1, [.int i_this_length, .int i_this_checks, .ref a_this_generator, .ref a_this_powers, .ref a_this_syndromes, .ref a_this_locator, .ref a_this_former, .ref a_this_next, .ref a_this_evaluator, .ref a_this_slope])), (a_p0, .inl (cI, n_p0, .inl f_p0)), (a_p1, .inl (cZ, n_p1, .inl f_p1)), (a_this_evaluator, .inl (cI, n_this_evaluator, .inl f_this_evaluator)), (a_this_former, .inl (cI, n_this_former, .inl f_this_former)), (a_this_locator, .inl (cI, n_this_locator, .inl f_this_locator)), (a_this_next, .inl (cI, n_this_next, .inl f_this_next)), (a_this_powers, .inl (cI, n_this_powers, .inl f_this_powers)), (a_this_slope, .inl (cI, n_this_slope, .inl f_this_slope)), (a_this_syndromes, .inl (cI, n_this_syndromes, .inl f_this_syndromes))] sz) := by
  refine Met.ofW (cc := cX0_mend) (maxL := 6) (ret := (some .int)) (by decide) rfl ?_
  intro p e s m args below meth c s₁ B hml hv
  obtain ⟨eargs, hsz, hP, hK, hD0⟩ := hv
  have hx := B.exec
  have hb := B.bytes
  have hr := B.returns
  have hts := atoms_spec (ws := wsX0_mend) B.pre
  have hown : s.vm.findClass RX0 = some m.cls := findClass_of_methodNamed B.named
  have hlocks := B.notSynchronized
  refine im_Q (fun Q eQ => ?_)
  subst hsz
  have hD := hD0.self (sz := s.heap.size)
  generalize hAe : va_A [(a_this, .inr (1, [.int i_this_length, .int i_this_checks, .ref a_this_generator, .ref a_this_powers, .ref a_this_syndromes, .ref a_this_locator, .ref a_this_former, .ref a_this_next, .ref a_this_evaluator, .ref a_this_slope])), (a_p0, .inl (cI, n_p0, .inl f_p0)), (a_p1, .inl (cZ, n_p1, .inl f_p1)), (a_this_evaluator, .inl (cI, n_this_evaluator, .inl f_this_evaluator)), (a_this_former, .inl (cI, n_this_former, .inl f_this_former)), (a_this_locator, .inl (cI, n_this_locator, .inl f_this_locator)), (a_this_next, .inl (cI, n_this_next, .inl f_this_next)), (a_this_powers, .inl (cI, n_this_powers, .inl f_this_powers)), (a_this_slope, .inl (cI, n_this_slope, .inl f_this_slope)), (a_this_syndromes, .inl (cI, n_this_syndromes, .inl f_this_syndromes))] s.heap.size = A at hD eQ
  have hA : ∀ q : Nat, s.heap.size ≤ q → A q := fun q h => by rw [← hAe]; exact Or.inr h
  have hS : va_S A s.heap s.heap [] := va_S.rf
  have hl := lv_entry [.ref a_this, .ref a_p0, .ref a_p1] (n := 6) (Nat.le_of_ble_eq_true rfl)
  rw [show entryFrame m args 6 = entryFrame m ([.ref a_this, .ref a_p0, .ref a_p1] : List Value).toArray 6 by rw [eargs], lg_entry_eq]
  generalize (lg_sl ([.ref a_this, .ref a_p0, .ref a_p1]) ++ List.replicate (6 - (lg_sl ([.ref a_this, .ref a_p0, .ref a_p1])).length) Slot.unset).toArray = ls at hl ⊢
  have hl : lv_has ls 6 [(0, .ref a_this), (1, .ref a_p0), (2, .ref a_p1)] := hl
  rw [im_X0_mend] at h
  refine lv_aload_n hx hb dX0_mend_0 rfl (lv_at hl 0 rfl) ?_
  refine lv_aload_n hx hb dX0_mend_1 rfl (lv_at hl 2 rfl) ?_
  obtain ⟨v1, y2, h⟩ := im_b1_u h
  have hPc := hP.sub (ws' := [(a_this, .inr (1, [.int i_this_length, .int i_this_checks, .ref a_this_generator, .ref a_this_powers, .ref a_this_syndromes, .ref a_this_locator, .ref a_this_former, .ref a_this_next, .ref a_this_evaluator, .ref a_this_slope])), (a_p1, .inl (cZ, n_p1, .inl f_p1))]) [0, 2] rfl
  refine vp_callSi (W.runV (As := [.ref a_p1]) (rest := []) ⟨hx, hb, hml, hown, hts⟩ (c_X0_countLost l dC dI cI cJ cZ a_this a_this_generator a_this_powers a_this_syndromes a_this_locator a_this_former a_this_next a_this_evaluator a_this_slope a_p1 i_this_length i_this_checks n_p1 f_p1 y2) (cwV 1 hts gX0_mend_X0_countLost rfl rfl rfl (by decide +kernel) ⟨Nat.le_of_ble_eq_true rfl, Nat.le_of_ble_eq_true rfl⟩) ⟨fun a U g mk q => by obtain ⟨q0, qP, qK⟩ := q; exact ⟨q0, qP, va_K.moved (u := U) (U := U.calling g mk a) (Vm.Alike.refl U.vm) qK⟩, va_recv hK hPc (ci := 1) (q0 := 0) rfl rfl, fun U hU hW => ⟨rfl, by rw [hU]; exact hPc, va_K.moved hW.alike hK⟩⟩ rfl rfl hl.1 rfl (lv_room (Nat.le_of_ble_eq_true rfl)) dX0_mend_2 ⟨Nat.zero_le _, Nat.zero_le _⟩) (fun w2 ew2 => ?_)
  have ew2 := ew2.symm
  subst ew2
  refine lv_istore_n (lv' := [(3, .int v1), (0, .ref a_this), (1, .ref a_p0), (2, .ref a_p1)]) hx hb dX0_mend_5 rfl hl (by decide) rfl (fun ls hl => ?_)
  refine lv_iload_n hx hb dX0_mend_6 rfl (lv_at hl 0 rfl) ?_
  refine lv_aload_n hx hb dX0_mend_7 rfl (lv_at hl 1 rfl) ?_
  refine va_get (D := (dC, dI)) (ci := 1) (v := .int i_this_checks) (C := RX0) (T := TX0) (N := 10) hx hb hts hn_X0_mend_X0 hown hK hP 0 rfl rfl 1 (by decide) (hts _ fl_X0_mend_15) (fun _ h9 => h9) rfl dX0_mend_8 ?_
  refine lv_icmp_le (tgt := 16) hx hb dX0_mend_11 (by decide) (fun c11 => ?_) (fun c11 => ?_)
  · replace h := im_t c11 h
    refine im_j9_u (P := fun v2 v3 f4 f5 f6 f7 f8 f9 f10 => ∀ (H : Heap) (locs : List Loc) (ls : Array Slot), va_P (dC, dI) vwCl [(a_this, .inr (1, [.int i_this_length, .int i_this_checks, .ref a_this_generator, .ref a_this_powers, .ref a_this_syndromes, .ref a_this_locator, .ref a_this_former, .ref a_this_next, .ref a_this_evaluator, .ref a_this_slope])), (a_p0, .inl (cI, n_p0, .inl f4)), (a_p1, .inl (cZ, n_p1, .inl f_p1)), (a_this_evaluator, .inl (cI, n_this_evaluator, .inl f5)), (a_this_former, .inl (cI, n_this_former, .inl f6)), (a_this_locator, .inl (cI, n_this_locator, .inl f7)), (a_this_next, .inl (cI, n_this_next, .inl f8)), (a_this_powers, .inl (cI, n_this_powers, .inl f_this_powers)), (a_this_slope, .inl (cI, n_this_slope, .inl f9)), (a_this_syndromes, .inl (cI, n_this_syndromes, .inl f10))] H → va_D A [(a_this, .inr (1, [.int i_this_length, .int i_this_checks, .ref a_this_generator, .ref a_this_powers, .ref a_this_syndromes, .ref a_this_locator, .ref a_this_former, .ref a_this_next, .ref a_this_evaluator, .ref a_this_slope])), (a_p0, .inl (cI, n_p0, .inl f4)), (a_p1, .inl (cZ, n_p1, .inl f_p1)), (a_this_evaluator, .inl (cI, n_this_evaluator, .inl f5)), (a_this_former, .inl (cI, n_this_former, .inl f6)), (a_this_locator, .inl (cI, n_this_locator, .inl f7)), (a_this_next, .inl (cI, n_this_next, .inl f8)), (a_this_powers, .inl (cI, n_this_powers, .inl f_this_powers)), (a_this_slope, .inl (cI, n_this_slope, .inl f9)), (a_this_syndromes, .inl (cI, n_this_syndromes, .inl f10))] → va_S A s.heap H locs → lv_has ls 6 [(3, .int v1), (4, .int v2)] → W p l e (headSpec wsX0_mend rm_X0_mend).room s m args below meth c H locs 0 0 Q (F0 m 80 ls [.int v3])) h (fun v2 v3 f4 f5 f6 f7 f8 f9 f10 h H locs ls hP hD hS hl => ?_) (fun K11 J11 h => ?_)
    · refine lv_istore (lv' := [(5, .int v3), (3, .int v1), (4, .int v2)]) hx hb dX0_mend_80 hl (by decide) rfl (fun ls hl => ?_)
      refine lv_iload hx hb dX0_mend_82 (lv_at hl 0 rfl) ?_
      refine lv_if_eq (tgt := 94) hx hb dX0_mend_84 (by decide) (fun c84 => ?_) (fun c84 => ?_)
      · replace h := im_t c84 h
        refine lv_iconst (v := (-1 : Int32)) hx hb dX0_mend_94 (by decide) ?_
        rw [eQ]
        exact W.iret (v := (-1 : Int32)) hx hb hr (fun t ht hW => ⟨⟨_, (f4, f5, f6, f7, f8, f9, f10), rfl, Option.some.inj h, by rw [ht]; exact hP, va_K.moved hW.alike hK, hD⟩, hS.F ht⟩) hS.2.2 dX0_mend_95
      · replace h := im_f c84 h
        refine lv_iload hx hb dX0_mend_87 (lv_at hl 2 rfl) ?_
        refine lv_iload_n hx hb dX0_mend_89 rfl (lv_at hl 1 rfl) ?_
        refine lv_iadd hx hb dX0_mend_90 ?_
        refine lv_topi (fun v12 ev12 => ?_)
        replace h := im_lt_u h v12 ev12
        refine lv_goto (tgt := 95) hx hb dX0_mend_91 (by decide) ?_
        rw [eQ]
        exact W.iret (v := v12) hx hb hr (fun t ht hW => ⟨⟨_, (f4, f5, f6, f7, f8, f9, f10), rfl, Option.some.inj h, by rw [ht]; exact hP, va_K.moved hW.alike hK, hD⟩, hS.F ht⟩) hS.2.2 dX0_mend_95
    · refine im_j8_u (P := fun v13 f14 f15 f16 f17 f18 f19 f20 => ∀ (H : Heap) (locs : List Loc) (ls : Array Slot), va_P (dC, dI) vwCl [(a_this, .inr (1, [.int i_this_length, .int i_this_checks, .ref a_this_generator, .ref a_this_powers, .ref a_this_syndromes, .ref a_this_locator, .ref a_this_former, .ref a_this_next, .ref a_this_evaluator, .ref a_this_slope])), (a_p0, .inl (cI, n_p0, .inl f14)), (a_p1, .inl (cZ, n_p1, .inl f_p1)), (a_this_evaluator, .inl (cI, n_this_evaluator, .inl f15)), (a_this_former, .inl (cI, n_this_former, .inl f16)), (a_this_locator, .inl (cI, n_this_locator, .inl f17)), (a_this_next, .inl (cI, n_this_next, .inl f18)), (a_this_powers, .inl (cI, n_this_powers, .inl f_this_powers)), (a_this_slope, .inl (cI, n_this_slope, .inl f19)), (a_this_syndromes, .inl (cI, n_this_syndromes, .inl f20))] H → va_D A [(a_this, .inr (1, [.int i_this_length, .int i_this_checks, .ref a_this_generator, .ref a_this_powers, .ref a_this_syndromes, .ref a_this_locator, .ref a_this_former, .ref a_this_next, .ref a_this_evaluator, .ref a_this_slope])), (a_p0, .inl (cI, n_p0, .inl f14)), (a_p1, .inl (cZ, n_p1, .inl f_p1)), (a_this_evaluator, .inl (cI, n_this_evaluator, .inl f15)), (a_this_former, .inl (cI, n_this_former, .inl f16)), (a_this_locator, .inl (cI, n_this_locator, .inl f17)), (a_this_next, .inl (cI, n_this_next, .inl f18)), (a_this_powers, .inl (cI, n_this_powers, .inl f_this_powers)), (a_this_slope, .inl (cI, n_this_slope, .inl f19)), (a_this_syndromes, .inl (cI, n_this_syndromes, .inl f20))] → va_S A s.heap H locs → lv_has ls 6 [(3, .int v1), (4, .int v13)] → W p l e (headSpec wsX0_mend rm_X0_mend).room s m args below meth c H locs 0 0 Q (F0 m 79 ls [])) h (fun v13 f14 f15 f16 f17 f18 f19 f20 h H locs ls hP hD hS hl => ?_) (fun K21 J21 h => ?_)
      · refine lv_iconst (v := (0 : Int32)) hx hb dX0_mend_79 (by decide) ?_
        exact J11 v13 (0 : Int32) f14 f15 f16 f17 f18 f19 f20 h _ _ _ hP hD hS (lv_sub hl [0, 1] rfl)
      · refine lv_aload_n hx hb dX0_mend_16 rfl (lv_at hl 1 rfl) ?_
        refine lv_aload_n hx hb dX0_mend_17 rfl (lv_at hl 2 rfl) ?_
        obtain ⟨f22, y18, h⟩ := im_b1_u h
        have hPc := hP.sub (ws' := [(a_this, .inr (1, [.int i_this_length, .int i_this_checks, .ref a_this_generator, .ref a_this_powers, .ref a_this_syndromes, .ref a_this_locator, .ref a_this_former, .ref a_this_next, .ref a_this_evaluator, .ref a_this_slope])), (a_p0, .inl (cI, n_p0, .inl f_p0)), (a_this_syndromes, .inl (cI, n_this_syndromes, .inl f_this_syndromes))]) [0, 1, 9] rfl
        have hDc := hD.sub (ws' := [(a_this, .inr (1, [.int i_this_length, .int i_this_checks, .ref a_this_generator, .ref a_this_powers, .ref a_this_syndromes, .ref a_this_locator, .ref a_this_former, .ref a_this_next, .ref a_this_evaluator, .ref a_this_slope])), (a_p0, .inl (cI, n_p0, .inl f_p0)), (a_this_syndromes, .inl (cI, n_this_syndromes, .inl f_this_syndromes))]) [0, 1, 9] (by decide) rfl
        have hFc := va_free (wc := [(a_this, .inr (1, [.int i_this_length, .int i_this_checks, .ref a_this_generator, .ref a_this_powers, .ref a_this_syndromes, .ref a_this_locator, .ref a_this_former, .ref a_this_next, .ref a_this_evaluator, .ref a_this_slope])), (a_p0, .inl (cI, n_p0, .inl f_p0)), (a_this_syndromes, .inl (cI, n_this_syndromes, .inl f_this_syndromes))]) hD hS hA [0, 1, 9] rfl
        refine va_callv (va_runV (As := [.ref a_p0]) (rest := []) ⟨hx, hb, hml, hown, hts⟩ (c_X0_fillSyndromes l dC dI cI cJ cZ s.heap.size a_this a_this_generator a_this_powers a_this_syndromes a_this_locator a_this_former a_this_next a_this_evaluator a_this_slope a_p0 i_this_length i_this_checks n_p0 n_this_syndromes f_p0 f_this_syndromes y18) (cwV 1 hts gX0_mend_X0_fillSyndromes rfl rfl rfl (by decide +kernel) ⟨Nat.le_of_ble_eq_true rfl, Nat.le_of_ble_eq_true rfl⟩) ⟨fun a U g mk q => by obtain ⟨q0, q1, qP, qK, qD⟩ := q; exact ⟨q0, q1, qP, va_K.moved (u := U) (U := U.calling g mk a) (Vm.Alike.refl U.vm) qK, qD⟩, va_recv hK hPc (ci := 1) (q0 := 0) rfl rfl, fun U hU hW => ⟨rfl, by rw [hU], by rw [hU]; exact hPc, va_K.moved hW.alike hK, hDc.weaken (fun _ _ _ _ => trivial)⟩⟩ rfl rfl hl.1 rfl (lv_room (Nat.le_of_ble_eq_true rfl)) dX0_mend_18 ⟨Nat.zero_le _, Nat.zero_le _⟩) hS (fun q _ h => hFc q h) hFc (fun u9 t9 H1 locs ht9 hvm9 hw9 hB9 hz9 hk9 hS => ?_)
        obtain ⟨hP1, hK1, hD1⟩ := hB9
        rw [ht9] at hP1
        have hw9 := hw9.symm
        subst hw9
        obtain ⟨hP, hD⟩ := va_join (wr := [(a_p1, .inl (cZ, n_p1, .inl f_p1)), (a_this_evaluator, .inl (cI, n_this_evaluator, .inl f_this_evaluator)), (a_this_former, .inl (cI, n_this_former, .inl f_this_former)), (a_this_locator, .inl (cI, n_this_locator, .inl f_this_locator)), (a_this_next, .inl (cI, n_this_next, .inl f_this_next)), (a_this_powers, .inl (cI, n_this_powers, .inl f_this_powers)), (a_this_slope, .inl (cI, n_this_slope, .inl f_this_slope))]) (w1 := [(a_this, .inr (1, [.int i_this_length, .int i_this_checks, .ref a_this_generator, .ref a_this_powers, .ref a_this_syndromes, .ref a_this_locator, .ref a_this_former, .ref a_this_next, .ref a_this_evaluator, .ref a_this_slope])), (a_p0, .inl (cI, n_p0, .inl f_p0)), (a_this_syndromes, .inl (cI, n_this_syndromes, .inl f22))]) hP hD [0, 1, 9] [2, 3, 4, 5, 6, 7, 8] rfl rfl (by decide) (by decide) hk9 hFc hP1 hD1
        generalize H1 = H at hP hS ⊢
        have hP := hP.sub (ws' := [(a_this, .inr (1, [.int i_this_length, .int i_this_checks, .ref a_this_generator, .ref a_this_powers, .ref a_this_syndromes, .ref a_this_locator, .ref a_this_former, .ref a_this_next, .ref a_this_evaluator, .ref a_this_slope])), (a_p0, .inl (cI, n_p0, .inl f_p0)), (a_p1, .inl (cZ, n_p1, .inl f_p1)), (a_this_evaluator, .inl (cI, n_this_evaluator, .inl f_this_evaluator)), (a_this_former, .inl (cI, n_this_former, .inl f_this_former)), (a_this_locator, .inl (cI, n_this_locator, .inl f_this_locator)), (a_this_next, .inl (cI, n_this_next, .inl f_this_next)), (a_this_powers, .inl (cI, n_this_powers, .inl f_this_powers)), (a_this_slope, .inl (cI, n_this_slope, .inl f_this_slope)), (a_this_syndromes, .inl (cI, n_this_syndromes, .inl f22))]) [7, 8, 0, 1, 2, 3, 4, 5, 6, 9] rfl
        have hD := hD.sub (ws' := [(a_this, .inr (1, [.int i_this_length, .int i_this_checks, .ref a_this_generator, .ref a_this_powers, .ref a_this_syndromes, .ref a_this_locator, .ref a_this_former, .ref a_this_next, .ref a_this_evaluator, .ref a_this_slope])), (a_p0, .inl (cI, n_p0, .inl f_p0)), (a_p1, .inl (cZ, n_p1, .inl f_p1)), (a_this_evaluator, .inl (cI, n_this_evaluator, .inl f_this_evaluator)), (a_this_former, .inl (cI, n_this_former, .inl f_this_former)), (a_this_locator, .inl (cI, n_this_locator, .inl f_this_locator)), (a_this_next, .inl (cI, n_this_next, .inl f_this_next)), (a_this_powers, .inl (cI, n_this_powers, .inl f_this_powers)), (a_this_slope, .inl (cI, n_this_slope, .inl f_this_slope)), (a_this_syndromes, .inl (cI, n_this_syndromes, .inl f22))]) [7, 8, 0, 1, 2, 3, 4, 5, 6, 9] (by decide) rfl
        refine lv_aload_n hx hb dX0_mend_21 rfl (lv_at hl 1 rfl) ?_
        refine lv_aload_n hx hb dX0_mend_22 rfl (lv_at hl 3 rfl) ?_
        obtain ⟨f23, y23, h⟩ := im_b1_u h
        have hPc := hP.sub (ws' := [(a_this, .inr (1, [.int i_this_length, .int i_this_checks, .ref a_this_generator, .ref a_this_powers, .ref a_this_syndromes, .ref a_this_locator, .ref a_this_former, .ref a_this_next, .ref a_this_evaluator, .ref a_this_slope])), (a_p1, .inl (cZ, n_p1, .inl f_p1)), (a_this_locator, .inl (cI, n_this_locator, .inl f_this_locator)), (a_this_powers, .inl (cI, n_this_powers, .inl f_this_powers))]) [0, 2, 5, 7] rfl
        have hDc := hD.sub (ws' := [(a_this, .inr (1, [.int i_this_length, .int i_this_checks, .ref a_this_generator, .ref a_this_powers, .ref a_this_syndromes, .ref a_this_locator, .ref a_this_former, .ref a_this_next, .ref a_this_evaluator, .ref a_this_slope])), (a_p1, .inl (cZ, n_p1, .inl f_p1)), (a_this_locator, .inl (cI, n_this_locator, .inl f_this_locator)), (a_this_powers, .inl (cI, n_this_powers, .inl f_this_powers))]) [0, 2, 5, 7] (by decide) rfl
        have hFc := va_free (wc := [(a_this, .inr (1, [.int i_this_length, .int i_this_checks, .ref a_this_generator, .ref a_this_powers, .ref a_this_syndromes, .ref a_this_locator, .ref a_this_former, .ref a_this_next, .ref a_this_evaluator, .ref a_this_slope])), (a_p1, .inl (cZ, n_p1, .inl f_p1)), (a_this_locator, .inl (cI, n_this_locator, .inl f_this_locator)), (a_this_powers, .inl (cI, n_this_powers, .inl f_this_powers))]) hD hS hA [0, 2, 5, 7] rfl
        refine va_callv (va_runV (As := [.ref a_p1]) (rest := []) ⟨hx, hb, hml, hown, hts⟩ (c_X0_locateLost l dC dI cI cJ cZ H.size a_this a_this_generator a_this_powers a_this_syndromes a_this_locator a_this_former a_this_next a_this_evaluator a_this_slope a_p1 i_this_length i_this_checks n_p1 n_this_locator n_this_powers f_p1 f_this_locator f_this_powers y23) (cwV 1 hts gX0_mend_X0_locateLost rfl rfl rfl (by decide +kernel) ⟨Nat.le_of_ble_eq_true rfl, Nat.le_of_ble_eq_true rfl⟩) ⟨fun a U g mk q => by obtain ⟨q0, q1, qP, qK, qD⟩ := q; exact ⟨q0, q1, qP, va_K.moved (u := U) (U := U.calling g mk a) (Vm.Alike.refl U.vm) qK, qD⟩, va_recv hK hPc (ci := 1) (q0 := 0) rfl rfl, fun U hU hW => ⟨rfl, by rw [hU], by rw [hU]; exact hPc, va_K.moved hW.alike hK, hDc.weaken (fun _ _ _ _ => trivial)⟩⟩ rfl rfl hl.1 rfl (lv_room (Nat.le_of_ble_eq_true rfl)) dX0_mend_23 ⟨Nat.zero_le _, Nat.zero_le _⟩) hS (fun q _ h => hFc q h) hFc (fun u9 t9 H1 locs ht9 hvm9 hw9 hB9 hz9 hk9 hS => ?_)
        obtain ⟨hP1, hK1, hD1⟩ := hB9
        rw [ht9] at hP1
        have hw9 := hw9.symm
        subst hw9
        obtain ⟨hP, hD⟩ := va_join (wr := [(a_p0, .inl (cI, n_p0, .inl f_p0)), (a_this_evaluator, .inl (cI, n_this_evaluator, .inl f_this_evaluator)), (a_this_former, .inl (cI, n_this_former, .inl f_this_former)), (a_this_next, .inl (cI, n_this_next, .inl f_this_next)), (a_this_slope, .inl (cI, n_this_slope, .inl f_this_slope)), (a_this_syndromes, .inl (cI, n_this_syndromes, .inl f22))]) (w1 := [(a_this, .inr (1, [.int i_this_length, .int i_this_checks, .ref a_this_generator, .ref a_this_powers, .ref a_this_syndromes, .ref a_this_locator, .ref a_this_former, .ref a_this_next, .ref a_this_evaluator, .ref a_this_slope])), (a_p1, .inl (cZ, n_p1, .inl f_p1)), (a_this_locator, .inl (cI, n_this_locator, .inl f23)), (a_this_powers, .inl (cI, n_this_powers, .inl f_this_powers))]) hP hD [0, 2, 5, 7] [1, 3, 4, 6, 8, 9] rfl rfl (by decide) (by decide) hk9 hFc hP1 hD1
        generalize H1 = H at hP hS ⊢
        have hP := hP.sub (ws' := [(a_this, .inr (1, [.int i_this_length, .int i_this_checks, .ref a_this_generator, .ref a_this_powers, .ref a_this_syndromes, .ref a_this_locator, .ref a_this_former, .ref a_this_next, .ref a_this_evaluator, .ref a_this_slope])), (a_p0, .inl (cI, n_p0, .inl f_p0)), (a_p1, .inl (cZ, n_p1, .inl f_p1)), (a_this_evaluator, .inl (cI, n_this_evaluator, .inl f_this_evaluator)), (a_this_former, .inl (cI, n_this_former, .inl f_this_former)), (a_this_locator, .inl (cI, n_this_locator, .inl f23)), (a_this_next, .inl (cI, n_this_next, .inl f_this_next)), (a_this_powers, .inl (cI, n_this_powers, .inl f_this_powers)), (a_this_slope, .inl (cI, n_this_slope, .inl f_this_slope)), (a_this_syndromes, .inl (cI, n_this_syndromes, .inl f22))]) [6, 0, 7, 1, 2, 8, 3, 9, 4, 5] rfl
        have hD := hD.sub (ws' := [(a_this, .inr (1, [.int i_this_length, .int i_this_checks, .ref a_this_generator, .ref a_this_powers, .ref a_this_syndromes, .ref a_this_locator, .ref a_this_former, .ref a_this_next, .ref a_this_evaluator, .ref a_this_slope])), (a_p0, .inl (cI, n_p0, .inl f_p0)), (a_p1, .inl (cZ, n_p1, .inl f_p1)), (a_this_evaluator, .inl (cI, n_this_evaluator, .inl f_this_evaluator)), (a_this_former, .inl (cI, n_this_former, .inl f_this_former)), (a_this_locator, .inl (cI, n_this_locator, .inl f23)), (a_this_next, .inl (cI, n_this_next, .inl f_this_next)), (a_this_powers, .inl (cI, n_this_powers, .inl f_this_powers)), (a_this_slope, .inl (cI, n_this_slope, .inl f_this_slope)), (a_this_syndromes, .inl (cI, n_this_syndromes, .inl f22))]) [6, 0, 7, 1, 2, 8, 3, 9, 4, 5] (by decide) rfl
        refine lv_aload_n hx hb dX0_mend_26 rfl (lv_at hl 1 rfl) ?_
        refine lv_iload_n hx hb dX0_mend_27 rfl (lv_at hl 0 rfl) ?_
        obtain ⟨f24, f25, f26, y28, h⟩ := im_b3_u h
        have hPc := hP.sub (ws' := [(a_this, .inr (1, [.int i_this_length, .int i_this_checks, .ref a_this_generator, .ref a_this_powers, .ref a_this_syndromes, .ref a_this_locator, .ref a_this_former, .ref a_this_next, .ref a_this_evaluator, .ref a_this_slope])), (a_this_former, .inl (cI, n_this_former, .inl f_this_former)), (a_this_locator, .inl (cI, n_this_locator, .inl f23)), (a_this_next, .inl (cI, n_this_next, .inl f_this_next)), (a_this_syndromes, .inl (cI, n_this_syndromes, .inl f22))]) [0, 4, 5, 6, 9] rfl
        have hDc := hD.sub (ws' := [(a_this, .inr (1, [.int i_this_length, .int i_this_checks, .ref a_this_generator, .ref a_this_powers, .ref a_this_syndromes, .ref a_this_locator, .ref a_this_former, .ref a_this_next, .ref a_this_evaluator, .ref a_this_slope])), (a_this_former, .inl (cI, n_this_former, .inl f_this_former)), (a_this_locator, .inl (cI, n_this_locator, .inl f23)), (a_this_next, .inl (cI, n_this_next, .inl f_this_next)), (a_this_syndromes, .inl (cI, n_this_syndromes, .inl f22))]) [0, 4, 5, 6, 9] (by decide) rfl
        have hFc := va_free (wc := [(a_this, .inr (1, [.int i_this_length, .int i_this_checks, .ref a_this_generator, .ref a_this_powers, .ref a_this_syndromes, .ref a_this_locator, .ref a_this_former, .ref a_this_next, .ref a_this_evaluator, .ref a_this_slope])), (a_this_former, .inl (cI, n_this_former, .inl f_this_former)), (a_this_locator, .inl (cI, n_this_locator, .inl f23)), (a_this_next, .inl (cI, n_this_next, .inl f_this_next)), (a_this_syndromes, .inl (cI, n_this_syndromes, .inl f22))]) hD hS hA [0, 4, 5, 6, 9] rfl
        refine va_callv (va_runV (As := [.int v1]) (rest := []) ⟨hx, hb, hml, hown, hts⟩ (c_X0_locateWrong l dC dI cI cJ cZ H.size a_this a_this_generator a_this_powers a_this_syndromes a_this_locator a_this_former a_this_next a_this_evaluator a_this_slope i_this_length i_this_checks n_this_former n_this_locator n_this_next n_this_syndromes f_this_former f23 f_this_next f22 v1 y28) (cwV 1 hts gX0_mend_X0_locateWrong rfl rfl rfl (by decide +kernel) ⟨Nat.le_of_ble_eq_true rfl, Nat.le_of_ble_eq_true rfl⟩) ⟨fun a U g mk q => by obtain ⟨q0, q1, qP, qK, qD⟩ := q; exact ⟨q0, q1, qP, va_K.moved (u := U) (U := U.calling g mk a) (Vm.Alike.refl U.vm) qK, qD⟩, va_recv hK hPc (ci := 1) (q0 := 0) rfl rfl, fun U hU hW => ⟨rfl, by rw [hU], by rw [hU]; exact hPc, va_K.moved hW.alike hK, hDc.weaken (fun _ _ _ _ => trivial)⟩⟩ rfl rfl hl.1 rfl (lv_room (Nat.le_of_ble_eq_true rfl)) dX0_mend_28 ⟨Nat.zero_le _, Nat.zero_le _⟩) hS (fun q _ h => hFc q h) hFc (fun u9 t9 H1 locs ht9 hvm9 hw9 hB9 hz9 hk9 hS => ?_)
        obtain ⟨hP1, hK1, hD1⟩ := hB9
        rw [ht9] at hP1
        have hw9 := hw9.symm
        subst hw9
        obtain ⟨hP, hD⟩ := va_join (wr := [(a_p0, .inl (cI, n_p0, .inl f_p0)), (a_p1, .inl (cZ, n_p1, .inl f_p1)), (a_this_evaluator, .inl (cI, n_this_evaluator, .inl f_this_evaluator)), (a_this_powers, .inl (cI, n_this_powers, .inl f_this_powers)), (a_this_slope, .inl (cI, n_this_slope, .inl f_this_slope))]) (w1 := [(a_this, .inr (1, [.int i_this_length, .int i_this_checks, .ref a_this_generator, .ref a_this_powers, .ref a_this_syndromes, .ref a_this_locator, .ref a_this_former, .ref a_this_next, .ref a_this_evaluator, .ref a_this_slope])), (a_this_former, .inl (cI, n_this_former, .inl f24)), (a_this_locator, .inl (cI, n_this_locator, .inl f25)), (a_this_next, .inl (cI, n_this_next, .inl f26)), (a_this_syndromes, .inl (cI, n_this_syndromes, .inl f22))]) hP hD [0, 4, 5, 6, 9] [1, 2, 3, 7, 8] rfl rfl (by decide) (by decide) hk9 hFc hP1 hD1
        generalize H1 = H at hP hS ⊢
        have hP := hP.sub (ws' := [(a_this, .inr (1, [.int i_this_length, .int i_this_checks, .ref a_this_generator, .ref a_this_powers, .ref a_this_syndromes, .ref a_this_locator, .ref a_this_former, .ref a_this_next, .ref a_this_evaluator, .ref a_this_slope])), (a_p0, .inl (cI, n_p0, .inl f_p0)), (a_p1, .inl (cZ, n_p1, .inl f_p1)), (a_this_evaluator, .inl (cI, n_this_evaluator, .inl f_this_evaluator)), (a_this_former, .inl (cI, n_this_former, .inl f24)), (a_this_locator, .inl (cI, n_this_locator, .inl f25)), (a_this_next, .inl (cI, n_this_next, .inl f26)), (a_this_powers, .inl (cI, n_this_powers, .inl f_this_powers)), (a_this_slope, .inl (cI, n_this_slope, .inl f_this_slope)), (a_this_syndromes, .inl (cI, n_this_syndromes, .inl f22))]) [5, 0, 1, 2, 6, 7, 8, 3, 4, 9] rfl
        have hD := hD.sub (ws' := [(a_this, .inr (1, [.int i_this_length, .int i_this_checks, .ref a_this_generator, .ref a_this_powers, .ref a_this_syndromes, .ref a_this_locator, .ref a_this_former, .ref a_this_next, .ref a_this_evaluator, .ref a_this_slope])), (a_p0, .inl (cI, n_p0, .inl f_p0)), (a_p1, .inl (cZ, n_p1, .inl f_p1)), (a_this_evaluator, .inl (cI, n_this_evaluator, .inl f_this_evaluator)), (a_this_former, .inl (cI, n_this_former, .inl f24)), (a_this_locator, .inl (cI, n_this_locator, .inl f25)), (a_this_next, .inl (cI, n_this_next, .inl f26)), (a_this_powers, .inl (cI, n_this_powers, .inl f_this_powers)), (a_this_slope, .inl (cI, n_this_slope, .inl f_this_slope)), (a_this_syndromes, .inl (cI, n_this_syndromes, .inl f22))]) [5, 0, 1, 2, 6, 7, 8, 3, 4, 9] (by decide) rfl
        refine lv_aload_n hx hb dX0_mend_31 rfl (lv_at hl 1 rfl) ?_
        obtain ⟨f27, y32, h⟩ := im_b1_u h
        have hPc := hP.sub (ws' := [(a_this, .inr (1, [.int i_this_length, .int i_this_checks, .ref a_this_generator, .ref a_this_powers, .ref a_this_syndromes, .ref a_this_locator, .ref a_this_former, .ref a_this_next, .ref a_this_evaluator, .ref a_this_slope])), (a_this_evaluator, .inl (cI, n_this_evaluator, .inl f_this_evaluator)), (a_this_locator, .inl (cI, n_this_locator, .inl f25)), (a_this_syndromes, .inl (cI, n_this_syndromes, .inl f22))]) [0, 3, 5, 9] rfl
        have hDc := hD.sub (ws' := [(a_this, .inr (1, [.int i_this_length, .int i_this_checks, .ref a_this_generator, .ref a_this_powers, .ref a_this_syndromes, .ref a_this_locator, .ref a_this_former, .ref a_this_next, .ref a_this_evaluator, .ref a_this_slope])), (a_this_evaluator, .inl (cI, n_this_evaluator, .inl f_this_evaluator)), (a_this_locator, .inl (cI, n_this_locator, .inl f25)), (a_this_syndromes, .inl (cI, n_this_syndromes, .inl f22))]) [0, 3, 5, 9] (by decide) rfl
        have hFc := va_free (wc := [(a_this, .inr (1, [.int i_this_length, .int i_this_checks, .ref a_this_generator, .ref a_this_powers, .ref a_this_syndromes, .ref a_this_locator, .ref a_this_former, .ref a_this_next, .ref a_this_evaluator, .ref a_this_slope])), (a_this_evaluator, .inl (cI, n_this_evaluator, .inl f_this_evaluator)), (a_this_locator, .inl (cI, n_this_locator, .inl f25)), (a_this_syndromes, .inl (cI, n_this_syndromes, .inl f22))]) hD hS hA [0, 3, 5, 9] rfl
        refine va_callv (va_runV (As := []) (rest := []) ⟨hx, hb, hml, hown, hts⟩ (c_X0_fillEvaluator l dC dI cI cJ cZ H.size a_this a_this_generator a_this_powers a_this_syndromes a_this_locator a_this_former a_this_next a_this_evaluator a_this_slope i_this_length i_this_checks n_this_evaluator n_this_locator n_this_syndromes f_this_evaluator f25 f22 y32) (cwV 0 hts gX0_mend_X0_fillEvaluator rfl rfl rfl (by decide +kernel) ⟨Nat.le_of_ble_eq_true rfl, Nat.le_of_ble_eq_true rfl⟩) ⟨fun a U g mk q => by obtain ⟨q0, q1, qP, qK, qD⟩ := q; exact ⟨q0, q1, qP, va_K.moved (u := U) (U := U.calling g mk a) (Vm.Alike.refl U.vm) qK, qD⟩, va_recv hK hPc (ci := 1) (q0 := 0) rfl rfl, fun U hU hW => ⟨rfl, by rw [hU], by rw [hU]; exact hPc, va_K.moved hW.alike hK, hDc.weaken (fun _ _ _ _ => trivial)⟩⟩ rfl rfl hl.1 rfl (lv_room (Nat.le_of_ble_eq_true rfl)) dX0_mend_32 ⟨Nat.zero_le _, Nat.zero_le _⟩) hS (fun q _ h => hFc q h) hFc (fun u9 t9 H1 locs ht9 hvm9 hw9 hB9 hz9 hk9 hS => ?_)
        obtain ⟨hP1, hK1, hD1⟩ := hB9
        rw [ht9] at hP1
        have hw9 := hw9.symm
        subst hw9
        obtain ⟨hP, hD⟩ := va_join (wr := [(a_p0, .inl (cI, n_p0, .inl f_p0)), (a_p1, .inl (cZ, n_p1, .inl f_p1)), (a_this_former, .inl (cI, n_this_former, .inl f24)), (a_this_next, .inl (cI, n_this_next, .inl f26)), (a_this_powers, .inl (cI, n_this_powers, .inl f_this_powers)), (a_this_slope, .inl (cI, n_this_slope, .inl f_this_slope))]) (w1 := [(a_this, .inr (1, [.int i_this_length, .int i_this_checks, .ref a_this_generator, .ref a_this_powers, .ref a_this_syndromes, .ref a_this_locator, .ref a_this_former, .ref a_this_next, .ref a_this_evaluator, .ref a_this_slope])), (a_this_evaluator, .inl (cI, n_this_evaluator, .inl f27)), (a_this_locator, .inl (cI, n_this_locator, .inl f25)), (a_this_syndromes, .inl (cI, n_this_syndromes, .inl f22))]) hP hD [0, 3, 5, 9] [1, 2, 4, 6, 7, 8] rfl rfl (by decide) (by decide) hk9 hFc hP1 hD1
        generalize H1 = H at hP hS ⊢
        have hP := hP.sub (ws' := [(a_this, .inr (1, [.int i_this_length, .int i_this_checks, .ref a_this_generator, .ref a_this_powers, .ref a_this_syndromes, .ref a_this_locator, .ref a_this_former, .ref a_this_next, .ref a_this_evaluator, .ref a_this_slope])), (a_p0, .inl (cI, n_p0, .inl f_p0)), (a_p1, .inl (cZ, n_p1, .inl f_p1)), (a_this_evaluator, .inl (cI, n_this_evaluator, .inl f27)), (a_this_former, .inl (cI, n_this_former, .inl f24)), (a_this_locator, .inl (cI, n_this_locator, .inl f25)), (a_this_next, .inl (cI, n_this_next, .inl f26)), (a_this_powers, .inl (cI, n_this_powers, .inl f_this_powers)), (a_this_slope, .inl (cI, n_this_slope, .inl f_this_slope)), (a_this_syndromes, .inl (cI, n_this_syndromes, .inl f22))]) [6, 0, 1, 7, 2, 8, 3, 4, 5, 9] rfl
        have hD := hD.sub (ws' := [(a_this, .inr (1, [.int i_this_length, .int i_this_checks, .ref a_this_generator, .ref a_this_powers, .ref a_this_syndromes, .ref a_this_locator, .ref a_this_former, .ref a_this_next, .ref a_this_evaluator, .ref a_this_slope])), (a_p0, .inl (cI, n_p0, .inl f_p0)), (a_p1, .inl (cZ, n_p1, .inl f_p1)), (a_this_evaluator, .inl (cI, n_this_evaluator, .inl f27)), (a_this_former, .inl (cI, n_this_former, .inl f24)), (a_this_locator, .inl (cI, n_this_locator, .inl f25)), (a_this_next, .inl (cI, n_this_next, .inl f26)), (a_this_powers, .inl (cI, n_this_powers, .inl f_this_powers)), (a_this_slope, .inl (cI, n_this_slope, .inl f_this_slope)), (a_this_syndromes, .inl (cI, n_this_syndromes, .inl f22))]) [6, 0, 1, 7, 2, 8, 3, 4, 5, 9] (by decide) rfl
        refine lv_aload_n hx hb dX0_mend_35 rfl (lv_at hl 1 rfl) ?_
        obtain ⟨f28, y36, h⟩ := im_b1_u h
        have hPc := hP.sub (ws' := [(a_this, .inr (1, [.int i_this_length, .int i_this_checks, .ref a_this_generator, .ref a_this_powers, .ref a_this_syndromes, .ref a_this_locator, .ref a_this_former, .ref a_this_next, .ref a_this_evaluator, .ref a_this_slope])), (a_this_locator, .inl (cI, n_this_locator, .inl f25)), (a_this_slope, .inl (cI, n_this_slope, .inl f_this_slope))]) [0, 5, 8] rfl
        have hDc := hD.sub (ws' := [(a_this, .inr (1, [.int i_this_length, .int i_this_checks, .ref a_this_generator, .ref a_this_powers, .ref a_this_syndromes, .ref a_this_locator, .ref a_this_former, .ref a_this_next, .ref a_this_evaluator, .ref a_this_slope])), (a_this_locator, .inl (cI, n_this_locator, .inl f25)), (a_this_slope, .inl (cI, n_this_slope, .inl f_this_slope))]) [0, 5, 8] (by decide) rfl
        have hFc := va_free (wc := [(a_this, .inr (1, [.int i_this_length, .int i_this_checks, .ref a_this_generator, .ref a_this_powers, .ref a_this_syndromes, .ref a_this_locator, .ref a_this_former, .ref a_this_next, .ref a_this_evaluator, .ref a_this_slope])), (a_this_locator, .inl (cI, n_this_locator, .inl f25)), (a_this_slope, .inl (cI, n_this_slope, .inl f_this_slope))]) hD hS hA [0, 5, 8] rfl
        refine va_callv (va_runV (As := []) (rest := []) ⟨hx, hb, hml, hown, hts⟩ (c_X0_fillSlope l dC dI cI cJ cZ H.size a_this a_this_generator a_this_powers a_this_syndromes a_this_locator a_this_former a_this_next a_this_evaluator a_this_slope i_this_length i_this_checks n_this_locator n_this_slope f25 f_this_slope y36) (cwV 0 hts gX0_mend_X0_fillSlope rfl rfl rfl (by decide +kernel) ⟨Nat.le_of_ble_eq_true rfl, Nat.le_of_ble_eq_true rfl⟩) ⟨fun a U g mk q => by obtain ⟨q0, q1, qP, qK, qD⟩ := q; exact ⟨q0, q1, qP, va_K.moved (u := U) (U := U.calling g mk a) (Vm.Alike.refl U.vm) qK, qD⟩, va_recv hK hPc (ci := 1) (q0 := 0) rfl rfl, fun U hU hW => ⟨rfl, by rw [hU], by rw [hU]; exact hPc, va_K.moved hW.alike hK, hDc.weaken (fun _ _ _ _ => trivial)⟩⟩ rfl rfl hl.1 rfl (lv_room (Nat.le_of_ble_eq_true rfl)) dX0_mend_36 ⟨Nat.zero_le _, Nat.zero_le _⟩) hS (fun q _ h => hFc q h) hFc (fun u9 t9 H1 locs ht9 hvm9 hw9 hB9 hz9 hk9 hS => ?_)
        obtain ⟨hP1, hK1, hD1⟩ := hB9
        rw [ht9] at hP1
        have hw9 := hw9.symm
        subst hw9
        obtain ⟨hP, hD⟩ := va_join (wr := [(a_p0, .inl (cI, n_p0, .inl f_p0)), (a_p1, .inl (cZ, n_p1, .inl f_p1)), (a_this_evaluator, .inl (cI, n_this_evaluator, .inl f27)), (a_this_former, .inl (cI, n_this_former, .inl f24)), (a_this_next, .inl (cI, n_this_next, .inl f26)), (a_this_powers, .inl (cI, n_this_powers, .inl f_this_powers)), (a_this_syndromes, .inl (cI, n_this_syndromes, .inl f22))]) (w1 := [(a_this, .inr (1, [.int i_this_length, .int i_this_checks, .ref a_this_generator, .ref a_this_powers, .ref a_this_syndromes, .ref a_this_locator, .ref a_this_former, .ref a_this_next, .ref a_this_evaluator, .ref a_this_slope])), (a_this_locator, .inl (cI, n_this_locator, .inl f25)), (a_this_slope, .inl (cI, n_this_slope, .inl f28))]) hP hD [0, 5, 8] [1, 2, 3, 4, 6, 7, 9] rfl rfl (by decide) (by decide) hk9 hFc hP1 hD1
        generalize H1 = H at hP hS ⊢
        have hP := hP.sub (ws' := [(a_this, .inr (1, [.int i_this_length, .int i_this_checks, .ref a_this_generator, .ref a_this_powers, .ref a_this_syndromes, .ref a_this_locator, .ref a_this_former, .ref a_this_next, .ref a_this_evaluator, .ref a_this_slope])), (a_p0, .inl (cI, n_p0, .inl f_p0)), (a_p1, .inl (cZ, n_p1, .inl f_p1)), (a_this_evaluator, .inl (cI, n_this_evaluator, .inl f27)), (a_this_former, .inl (cI, n_this_former, .inl f24)), (a_this_locator, .inl (cI, n_this_locator, .inl f25)), (a_this_next, .inl (cI, n_this_next, .inl f26)), (a_this_powers, .inl (cI, n_this_powers, .inl f_this_powers)), (a_this_slope, .inl (cI, n_this_slope, .inl f28)), (a_this_syndromes, .inl (cI, n_this_syndromes, .inl f22))]) [7, 0, 1, 2, 3, 8, 4, 5, 9, 6] rfl
        have hD := hD.sub (ws' := [(a_this, .inr (1, [.int i_this_length, .int i_this_checks, .ref a_this_generator, .ref a_this_powers, .ref a_this_syndromes, .ref a_this_locator, .ref a_this_former, .ref a_this_next, .ref a_this_evaluator, .ref a_this_slope])), (a_p0, .inl (cI, n_p0, .inl f_p0)), (a_p1, .inl (cZ, n_p1, .inl f_p1)), (a_this_evaluator, .inl (cI, n_this_evaluator, .inl f27)), (a_this_former, .inl (cI, n_this_former, .inl f24)), (a_this_locator, .inl (cI, n_this_locator, .inl f25)), (a_this_next, .inl (cI, n_this_next, .inl f26)), (a_this_powers, .inl (cI, n_this_powers, .inl f_this_powers)), (a_this_slope, .inl (cI, n_this_slope, .inl f28)), (a_this_syndromes, .inl (cI, n_this_syndromes, .inl f22))]) [7, 0, 1, 2, 3, 8, 4, 5, 9, 6] (by decide) rfl
        refine lv_aload_n hx hb dX0_mend_39 rfl (lv_at hl 1 rfl) ?_
        refine lv_aload_n hx hb dX0_mend_40 rfl (lv_at hl 2 rfl) ?_
        refine lv_aload_n hx hb dX0_mend_41 rfl (lv_at hl 3 rfl) ?_
        obtain ⟨v29, f30, y42, h⟩ := im_b2_u h
        have hPc := hP.sub (ws' := [(a_this, .inr (1, [.int i_this_length, .int i_this_checks, .ref a_this_generator, .ref a_this_powers, .ref a_this_syndromes, .ref a_this_locator, .ref a_this_former, .ref a_this_next, .ref a_this_evaluator, .ref a_this_slope])), (a_p0, .inl (cI, n_p0, .inl f_p0)), (a_p1, .inl (cZ, n_p1, .inl f_p1)), (a_this_evaluator, .inl (cI, n_this_evaluator, .inl f27)), (a_this_locator, .inl (cI, n_this_locator, .inl f25)), (a_this_powers, .inl (cI, n_this_powers, .inl f_this_powers)), (a_this_slope, .inl (cI, n_this_slope, .inl f28))]) [0, 1, 2, 3, 5, 7, 8] rfl
        have hDc := hD.sub (ws' := [(a_this, .inr (1, [.int i_this_length, .int i_this_checks, .ref a_this_generator, .ref a_this_powers, .ref a_this_syndromes, .ref a_this_locator, .ref a_this_former, .ref a_this_next, .ref a_this_evaluator, .ref a_this_slope])), (a_p0, .inl (cI, n_p0, .inl f_p0)), (a_p1, .inl (cZ, n_p1, .inl f_p1)), (a_this_evaluator, .inl (cI, n_this_evaluator, .inl f27)), (a_this_locator, .inl (cI, n_this_locator, .inl f25)), (a_this_powers, .inl (cI, n_this_powers, .inl f_this_powers)), (a_this_slope, .inl (cI, n_this_slope, .inl f28))]) [0, 1, 2, 3, 5, 7, 8] (by decide) rfl
        have hFc := va_free (wc := [(a_this, .inr (1, [.int i_this_length, .int i_this_checks, .ref a_this_generator, .ref a_this_powers, .ref a_this_syndromes, .ref a_this_locator, .ref a_this_former, .ref a_this_next, .ref a_this_evaluator, .ref a_this_slope])), (a_p0, .inl (cI, n_p0, .inl f_p0)), (a_p1, .inl (cZ, n_p1, .inl f_p1)), (a_this_evaluator, .inl (cI, n_this_evaluator, .inl f27)), (a_this_locator, .inl (cI, n_this_locator, .inl f25)), (a_this_powers, .inl (cI, n_this_powers, .inl f_this_powers)), (a_this_slope, .inl (cI, n_this_slope, .inl f28))]) hD hS hA [0, 1, 2, 3, 5, 7, 8] rfl
        refine va_calli (va_runV (As := [.ref a_p0, .ref a_p1]) (rest := []) ⟨hx, hb, hml, hown, hts⟩ (c_X0_correct l dC dI cI cJ cZ H.size a_this a_this_generator a_this_powers a_this_syndromes a_this_locator a_this_former a_this_next a_this_evaluator a_this_slope a_p0 a_p1 i_this_length i_this_checks n_p0 n_p1 n_this_evaluator n_this_locator n_this_powers n_this_slope f_p0 f_p1 f27 f25 f_this_powers f28 y42) (cwV 2 hts gX0_mend_X0_correct rfl rfl rfl (by decide +kernel) ⟨Nat.le_of_ble_eq_true rfl, Nat.le_of_ble_eq_true rfl⟩) ⟨fun a U g mk q => by obtain ⟨q0, q1, qP, qK, qD⟩ := q; exact ⟨q0, q1, qP, va_K.moved (u := U) (U := U.calling g mk a) (Vm.Alike.refl U.vm) qK, qD⟩, va_recv hK hPc (ci := 1) (q0 := 0) rfl rfl, fun U hU hW => ⟨rfl, by rw [hU], by rw [hU]; exact hPc, va_K.moved hW.alike hK, hDc.weaken (fun _ _ _ _ => trivial)⟩⟩ rfl rfl hl.1 rfl (lv_room (Nat.le_of_ble_eq_true rfl)) dX0_mend_42 ⟨Nat.zero_le _, Nat.zero_le _⟩) hS (fun q _ h => hFc q h) hFc (fun r9 u9 t9 H1 locs ht9 hvm9 hw9 hB9 hz9 hk9 hS => ?_)
        obtain ⟨hP1, hK1, hD1⟩ := hB9
        rw [ht9] at hP1
        obtain ⟨e1, e2⟩ := Prod.mk.inj hw9
        have e1 := e1.symm
        have e2 := e2.symm
        subst e1
        subst e2
        obtain ⟨hP, hD⟩ := va_join (wr := [(a_this_former, .inl (cI, n_this_former, .inl f24)), (a_this_next, .inl (cI, n_this_next, .inl f26)), (a_this_syndromes, .inl (cI, n_this_syndromes, .inl f22))]) (w1 := [(a_this, .inr (1, [.int i_this_length, .int i_this_checks, .ref a_this_generator, .ref a_this_powers, .ref a_this_syndromes, .ref a_this_locator, .ref a_this_former, .ref a_this_next, .ref a_this_evaluator, .ref a_this_slope])), (a_p0, .inl (cI, n_p0, .inl f30)), (a_p1, .inl (cZ, n_p1, .inl f_p1)), (a_this_evaluator, .inl (cI, n_this_evaluator, .inl f27)), (a_this_locator, .inl (cI, n_this_locator, .inl f25)), (a_this_powers, .inl (cI, n_this_powers, .inl f_this_powers)), (a_this_slope, .inl (cI, n_this_slope, .inl f28))]) hP hD [0, 1, 2, 3, 5, 7, 8] [4, 6, 9] rfl rfl (by decide) (by decide) hk9 hFc hP1 hD1
        generalize H1 = H at hP hS ⊢
        have hP := hP.sub (ws' := [(a_this, .inr (1, [.int i_this_length, .int i_this_checks, .ref a_this_generator, .ref a_this_powers, .ref a_this_syndromes, .ref a_this_locator, .ref a_this_former, .ref a_this_next, .ref a_this_evaluator, .ref a_this_slope])), (a_p0, .inl (cI, n_p0, .inl f30)), (a_p1, .inl (cZ, n_p1, .inl f_p1)), (a_this_evaluator, .inl (cI, n_this_evaluator, .inl f27)), (a_this_former, .inl (cI, n_this_former, .inl f24)), (a_this_locator, .inl (cI, n_this_locator, .inl f25)), (a_this_next, .inl (cI, n_this_next, .inl f26)), (a_this_powers, .inl (cI, n_this_powers, .inl f_this_powers)), (a_this_slope, .inl (cI, n_this_slope, .inl f28)), (a_this_syndromes, .inl (cI, n_this_syndromes, .inl f22))]) [3, 4, 5, 6, 0, 7, 1, 8, 9, 2] rfl
        have hD := hD.sub (ws' := [(a_this, .inr (1, [.int i_this_length, .int i_this_checks, .ref a_this_generator, .ref a_this_powers, .ref a_this_syndromes, .ref a_this_locator, .ref a_this_former, .ref a_this_next, .ref a_this_evaluator, .ref a_this_slope])), (a_p0, .inl (cI, n_p0, .inl f30)), (a_p1, .inl (cZ, n_p1, .inl f_p1)), (a_this_evaluator, .inl (cI, n_this_evaluator, .inl f27)), (a_this_former, .inl (cI, n_this_former, .inl f24)), (a_this_locator, .inl (cI, n_this_locator, .inl f25)), (a_this_next, .inl (cI, n_this_next, .inl f26)), (a_this_powers, .inl (cI, n_this_powers, .inl f_this_powers)), (a_this_slope, .inl (cI, n_this_slope, .inl f28)), (a_this_syndromes, .inl (cI, n_this_syndromes, .inl f22))]) [3, 4, 5, 6, 0, 7, 1, 8, 9, 2] (by decide) rfl
        refine lv_istore (lv' := [(4, .int v29), (3, .int v1), (0, .ref a_this), (1, .ref a_p0), (2, .ref a_p1)]) hx hb dX0_mend_45 hl (by decide) rfl (fun ls hl => ?_)
        refine lv_aload_n hx hb dX0_mend_47 rfl (lv_at hl 2 rfl) ?_
        refine lv_aload_n hx hb dX0_mend_48 rfl (lv_at hl 3 rfl) ?_
        obtain ⟨f31, y49, h⟩ := im_b1_u h
        have hPc := hP.sub (ws' := [(a_this, .inr (1, [.int i_this_length, .int i_this_checks, .ref a_this_generator, .ref a_this_powers, .ref a_this_syndromes, .ref a_this_locator, .ref a_this_former, .ref a_this_next, .ref a_this_evaluator, .ref a_this_slope])), (a_p0, .inl (cI, n_p0, .inl f30)), (a_this_syndromes, .inl (cI, n_this_syndromes, .inl f22))]) [0, 1, 9] rfl
        have hDc := hD.sub (ws' := [(a_this, .inr (1, [.int i_this_length, .int i_this_checks, .ref a_this_generator, .ref a_this_powers, .ref a_this_syndromes, .ref a_this_locator, .ref a_this_former, .ref a_this_next, .ref a_this_evaluator, .ref a_this_slope])), (a_p0, .inl (cI, n_p0, .inl f30)), (a_this_syndromes, .inl (cI, n_this_syndromes, .inl f22))]) [0, 1, 9] (by decide) rfl
        have hFc := va_free (wc := [(a_this, .inr (1, [.int i_this_length, .int i_this_checks, .ref a_this_generator, .ref a_this_powers, .ref a_this_syndromes, .ref a_this_locator, .ref a_this_former, .ref a_this_next, .ref a_this_evaluator, .ref a_this_slope])), (a_p0, .inl (cI, n_p0, .inl f30)), (a_this_syndromes, .inl (cI, n_this_syndromes, .inl f22))]) hD hS hA [0, 1, 9] rfl
        refine va_callv (va_runV (As := [.ref a_p0]) (rest := []) ⟨hx, hb, hml, hown, hts⟩ (c_X0_fillSyndromes l dC dI cI cJ cZ H.size a_this a_this_generator a_this_powers a_this_syndromes a_this_locator a_this_former a_this_next a_this_evaluator a_this_slope a_p0 i_this_length i_this_checks n_p0 n_this_syndromes f30 f22 y49) (cwV 1 hts gX0_mend_X0_fillSyndromes rfl rfl rfl (by decide +kernel) ⟨Nat.le_of_ble_eq_true rfl, Nat.le_of_ble_eq_true rfl⟩) ⟨fun a U g mk q => by obtain ⟨q0, q1, qP, qK, qD⟩ := q; exact ⟨q0, q1, qP, va_K.moved (u := U) (U := U.calling g mk a) (Vm.Alike.refl U.vm) qK, qD⟩, va_recv hK hPc (ci := 1) (q0 := 0) rfl rfl, fun U hU hW => ⟨rfl, by rw [hU], by rw [hU]; exact hPc, va_K.moved hW.alike hK, hDc.weaken (fun _ _ _ _ => trivial)⟩⟩ rfl rfl hl.1 rfl (lv_room (Nat.le_of_ble_eq_true rfl)) dX0_mend_49 ⟨Nat.zero_le _, Nat.zero_le _⟩) hS (fun q _ h => hFc q h) hFc (fun u9 t9 H1 locs ht9 hvm9 hw9 hB9 hz9 hk9 hS => ?_)
        obtain ⟨hP1, hK1, hD1⟩ := hB9
        rw [ht9] at hP1
        have hw9 := hw9.symm
        subst hw9
        obtain ⟨hP, hD⟩ := va_join (wr := [(a_p1, .inl (cZ, n_p1, .inl f_p1)), (a_this_evaluator, .inl (cI, n_this_evaluator, .inl f27)), (a_this_former, .inl (cI, n_this_former, .inl f24)), (a_this_locator, .inl (cI, n_this_locator, .inl f25)), (a_this_next, .inl (cI, n_this_next, .inl f26)), (a_this_powers, .inl (cI, n_this_powers, .inl f_this_powers)), (a_this_slope, .inl (cI, n_this_slope, .inl f28))]) (w1 := [(a_this, .inr (1, [.int i_this_length, .int i_this_checks, .ref a_this_generator, .ref a_this_powers, .ref a_this_syndromes, .ref a_this_locator, .ref a_this_former, .ref a_this_next, .ref a_this_evaluator, .ref a_this_slope])), (a_p0, .inl (cI, n_p0, .inl f30)), (a_this_syndromes, .inl (cI, n_this_syndromes, .inl f31))]) hP hD [0, 1, 9] [2, 3, 4, 5, 6, 7, 8] rfl rfl (by decide) (by decide) hk9 hFc hP1 hD1
        generalize H1 = H at hP hS ⊢
        have hP := hP.sub (ws' := [(a_this, .inr (1, [.int i_this_length, .int i_this_checks, .ref a_this_generator, .ref a_this_powers, .ref a_this_syndromes, .ref a_this_locator, .ref a_this_former, .ref a_this_next, .ref a_this_evaluator, .ref a_this_slope])), (a_p0, .inl (cI, n_p0, .inl f30)), (a_p1, .inl (cZ, n_p1, .inl f_p1)), (a_this_evaluator, .inl (cI, n_this_evaluator, .inl f27)), (a_this_former, .inl (cI, n_this_former, .inl f24)), (a_this_locator, .inl (cI, n_this_locator, .inl f25)), (a_this_next, .inl (cI, n_this_next, .inl f26)), (a_this_powers, .inl (cI, n_this_powers, .inl f_this_powers)), (a_this_slope, .inl (cI, n_this_slope, .inl f28)), (a_this_syndromes, .inl (cI, n_this_syndromes, .inl f31))]) [7, 8, 0, 1, 2, 3, 4, 5, 6, 9] rfl
        have hD := hD.sub (ws' := [(a_this, .inr (1, [.int i_this_length, .int i_this_checks, .ref a_this_generator, .ref a_this_powers, .ref a_this_syndromes, .ref a_this_locator, .ref a_this_former, .ref a_this_next, .ref a_this_evaluator, .ref a_this_slope])), (a_p0, .inl (cI, n_p0, .inl f30)), (a_p1, .inl (cZ, n_p1, .inl f_p1)), (a_this_evaluator, .inl (cI, n_this_evaluator, .inl f27)), (a_this_former, .inl (cI, n_this_former, .inl f24)), (a_this_locator, .inl (cI, n_this_locator, .inl f25)), (a_this_next, .inl (cI, n_this_next, .inl f26)), (a_this_powers, .inl (cI, n_this_powers, .inl f_this_powers)), (a_this_slope, .inl (cI, n_this_slope, .inl f28)), (a_this_syndromes, .inl (cI, n_this_syndromes, .inl f31))]) [7, 8, 0, 1, 2, 3, 4, 5, 6, 9] (by decide) rfl
        refine lv_aload_n hx hb dX0_mend_52 rfl (lv_at hl 2 rfl) ?_
        refine va_get (D := (dC, dI)) (ci := 1) (v := .ref a_this_syndromes) (C := RX0) (T := TX0) (N := 10) hx hb hts hn_X0_mend_X0 hown hK hP 0 rfl rfl 4 (by decide) (hts _ fl_X0_mend_25) (fun _ h9 => h9) rfl dX0_mend_53 ?_
        obtain ⟨v32, y56, h⟩ := im_b1_u h
        have hPc := hP.sub (ws' := [(a_this_syndromes, .inl (cI, n_this_syndromes, .inl f31))]) [9] rfl
        refine vp_callSi (W.runS (As := [.ref a_this_syndromes]) (rest := []) ⟨hx, hb, hml, hown, hts⟩ (c_X0_allZero l dC dI cI cJ cZ a_this_syndromes n_this_syndromes f31 y56) (va_cwS 1 hts gX0_mend_X0_allZero rfl rfl rfl (by decide +kernel) ⟨Nat.le_of_ble_eq_true rfl, Nat.le_of_ble_eq_true rfl⟩) ⟨fun a U g mk q => by obtain ⟨q0, qP, qK⟩ := q; exact ⟨q0, qP, va_K.moved (u := U) (U := U.calling g mk a) (Vm.Alike.refl U.vm) qK⟩, fun U hU hW => ⟨rfl, by rw [hU]; exact hPc, va_K.moved hW.alike hK⟩⟩ rfl rfl hl.1 rfl (lv_room (Nat.le_of_ble_eq_true rfl)) dX0_mend_56 ⟨Nat.zero_le _, Nat.zero_le _⟩) (fun w56 ew56 => ?_)
        have ew56 := ew56.symm
        subst ew56
        refine lv_if_eq (tgt := 79) hx hb dX0_mend_59 (by decide) (fun c59 => ?_) (fun c59 => ?_)
        · replace h := im_t c59 h
          exact J21 v29 f30 f27 f24 f25 f26 f28 f31 h _ _ _ hP hD hS (lv_sub hl [1, 0] rfl)
        · replace h := im_f c59 h
          refine lv_iconst (v := (2 : Int32)) hx hb dX0_mend_62 (by decide) ?_
          refine lv_iload hx hb dX0_mend_63 (lv_at hl 0 rfl) ?_
          refine lv_imul hx hb dX0_mend_65 ?_
          refine lv_topi (fun v33 ev33 => ?_)
          replace h := im_lt_u h v33 ev33
          refine lv_iload_n hx hb dX0_mend_66 rfl (lv_at hl 1 rfl) ?_
          refine lv_iadd hx hb dX0_mend_67 ?_
          refine lv_topi (fun v34 ev34 => ?_)
          replace h := im_lt_u h v34 ev34
          refine lv_aload_n hx hb dX0_mend_68 rfl (lv_at hl 2 rfl) ?_
          refine va_get (D := (dC, dI)) (ci := 1) (v := .int i_this_checks) (C := RX0) (T := TX0) (N := 10) hx hb hts hn_X0_mend_X0 hown hK hP 0 rfl rfl 1 (by decide) (hts _ fl_X0_mend_15) (fun _ h9 => h9) rfl dX0_mend_69 ?_
          refine lv_icmp_gt (tgt := 79) hx hb dX0_mend_72 (by decide) (fun c72 => ?_) (fun c72 => ?_)
          · replace h := im_t c72 h
            exact J21 v29 f30 f27 f24 f25 f26 f28 f31 h _ _ _ hP hD hS (lv_sub hl [1, 0] rfl)
          · replace h := im_f c72 h
            refine lv_iconst (v := (1 : Int32)) hx hb dX0_mend_75 (by decide) ?_
            refine lv_goto (tgt := 80) hx hb dX0_mend_76 (by decide) ?_
            exact J11 v29 (1 : Int32) f30 f27 f24 f25 f26 f28 f31 h _ _ _ hP hD hS (lv_sub hl [1, 0] rfl)
  · replace h := im_f c11 h
    refine lv_iconst (v := (-1 : Int32)) hx hb dX0_mend_14 (by decide) ?_
    rw [eQ]
    exact W.iret (v := (-1 : Int32)) hx hb hr (fun t ht hW => ⟨⟨_, (f_p0, f_this_evaluator, f_this_former, f_this_locator, f_this_next, f_this_slope, f_this_syndromes), rfl, Option.some.inj h, by rw [ht]; exact hP, va_K.moved hW.alike hK, hD⟩, hS.F ht⟩) hS.2.2 dX0_mend_15
