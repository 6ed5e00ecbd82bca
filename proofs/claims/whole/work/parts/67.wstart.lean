/-! an array class, by its word -/
theorem ws_arr {args : Array Value} {s : State} {ty : FieldType} (hn : ∀ C, ty ≠ .object C) (h : (Cond.arrayClass ty).before args s = true) : ∃ cA : ClassId, ArrOfT s cA ty ∧ va_RA s cA ty := by
  obtain ⟨c, k, comp, h1, h2, h3⟩ := Cond.arrayClass_spec h
  refine ⟨c, fun n z => ⟨fun k h => (by cases h), k, h2, comp, h3⟩, ?_⟩
  cases ty with
  | object C => exact absurd rfl (hn C)
  | _ => exact h1
def wsN : Jvm.Cond := Jvm.Cond.and given_1 narrow_1
theorem ws_aE {args : Array Value} {s : State} {A : Nat → Prop} (hgv : (Jvm.Cond.and given_1 narrow_1).before args s = true) (hts : ∀ w ∈ lw_tbl, w.before args s = true) (hA : ∀ a : Nat, a < s.heap.size → ¬ A a) : ∃ aE : Nat, va_T .int aE 4 (fun j => .int (tE j)) A s s.heap ∧ va_Z "BarCodes$Form" "FOUR_HEIGHT_ENDS" "[I" (.ref aE) A s s.heap := by
  have hq := flat_of_before _ hgv
  obtain ⟨t, h1, h2⟩ := va_Tof (tm := (.static "BarCodes$Form" "FOUR_HEIGHT_ENDS" "[I")) (ty := .int) (N := 4) (f := fun j => .int (tE j)) (A := A) (by decide) (hq (.arrayOf (.static "BarCodes$Form" "FOUR_HEIGHT_ENDS" "[I") .int) (by decide +kernel)) (va_eqt (hq (.eq (.length (.static "BarCodes$Form" "FOUR_HEIGHT_ENDS" "[I")) (.int 4)) (by decide +kernel))) (fun j hj => by
    have : j = 0 ∨ j = 1 ∨ j = 2 ∨ j = 3 := by omega
    rcases this with rfl | rfl | rfl | rfl
    · exact va_eqt (hq (.eq (.elem (.static "BarCodes$Form" "FOUR_HEIGHT_ENDS" "[I") (.int 0)) (.int 1)) (by decide +kernel))
    · exact va_eqt (hq (.eq (.elem (.static "BarCodes$Form" "FOUR_HEIGHT_ENDS" "[I") (.int 1)) (.int 3)) (by decide +kernel))
    · exact va_eqt (hq (.eq (.elem (.static "BarCodes$Form" "FOUR_HEIGHT_ENDS" "[I") (.int 2)) (.int 0)) (by decide +kernel))
    · exact va_eqt (hq (.eq (.elem (.static "BarCodes$Form" "FOUR_HEIGHT_ENDS" "[I") (.int 3)) (.int 1)) (by decide +kernel))) hA
  exact ⟨t, h2, va_Zref (hts (.laysStatic "BarCodes$Form" "FOUR_HEIGHT_ENDS" "[I") (by decide +kernel)) (hts (.initialized "BarCodes$Form") (by decide +kernel)) h1 hA⟩
theorem ws_aL {args : Array Value} {s : State} {A : Nat → Prop} (hgv : (Jvm.Cond.and given_1 narrow_1).before args s = true) (hts : ∀ w ∈ lw_tbl, w.before args s = true) (hA : ∀ a : Nat, a < s.heap.size → ¬ A a) : ∃ aL : Nat, va_T .int aL 4 (fun j => .int (tLg j)) A s s.heap ∧ va_Z "BarCodes$Form" "LONG_WIDTHS" "[I" (.ref aL) A s s.heap := by
  have hq := flat_of_before _ hgv
  obtain ⟨t, h1, h2⟩ := va_Tof (tm := (.static "BarCodes$Form" "LONG_WIDTHS" "[I")) (ty := .int) (N := 4) (f := fun j => .int (tLg j)) (A := A) (by decide) (hq (.arrayOf (.static "BarCodes$Form" "LONG_WIDTHS" "[I") .int) (by decide +kernel)) (va_eqt (hq (.eq (.length (.static "BarCodes$Form" "LONG_WIDTHS" "[I")) (.int 4)) (by decide +kernel))) (fun j hj => by
    have : j = 0 ∨ j = 1 ∨ j = 2 ∨ j = 3 := by omega
    rcases this with rfl | rfl | rfl | rfl
    · exact va_eqt (hq (.eq (.elem (.static "BarCodes$Form" "LONG_WIDTHS" "[I") (.int 0)) (.int 6)) (by decide +kernel))
    · exact va_eqt (hq (.eq (.elem (.static "BarCodes$Form" "LONG_WIDTHS" "[I") (.int 1)) (.int 24)) (by decide +kernel))
    · exact va_eqt (hq (.eq (.elem (.static "BarCodes$Form" "LONG_WIDTHS" "[I") (.int 2)) (.int 30)) (by decide +kernel))
    · exact va_eqt (hq (.eq (.elem (.static "BarCodes$Form" "LONG_WIDTHS" "[I") (.int 3)) (.int 36)) (by decide +kernel))) hA
  exact ⟨t, h2, va_Zref (hts (.laysStatic "BarCodes$Form" "LONG_WIDTHS" "[I") (by decide +kernel)) (hts (.initialized "BarCodes$Form") (by decide +kernel)) h1 hA⟩
theorem ws_aS {args : Array Value} {s : State} {A : Nat → Prop} (hgv : (Jvm.Cond.and given_1 narrow_1).before args s = true) (hts : ∀ w ∈ lw_tbl, w.before args s = true) (hA : ∀ a : Nat, a < s.heap.size → ¬ A a) : ∃ aS : Nat, va_T .int aS 3 (fun j => .int (tS j)) A s s.heap ∧ va_Z "BarCodes$Form" "SHORT_WIDTHS" "[I" (.ref aS) A s s.heap := by
  have hq := flat_of_before _ hgv
  obtain ⟨t, h1, h2⟩ := va_Tof (tm := (.static "BarCodes$Form" "SHORT_WIDTHS" "[I")) (ty := .int) (N := 3) (f := fun j => .int (tS j)) (A := A) (by decide) (hq (.arrayOf (.static "BarCodes$Form" "SHORT_WIDTHS" "[I") .int) (by decide +kernel)) (va_eqt (hq (.eq (.length (.static "BarCodes$Form" "SHORT_WIDTHS" "[I")) (.int 3)) (by decide +kernel))) (fun j hj => by
    have : j = 0 ∨ j = 1 ∨ j = 2 := by omega
    rcases this with rfl | rfl | rfl
    · exact va_eqt (hq (.eq (.elem (.static "BarCodes$Form" "SHORT_WIDTHS" "[I") (.int 0)) (.int 6)) (by decide +kernel))
    · exact va_eqt (hq (.eq (.elem (.static "BarCodes$Form" "SHORT_WIDTHS" "[I") (.int 1)) (.int 24)) (by decide +kernel))
    · exact va_eqt (hq (.eq (.elem (.static "BarCodes$Form" "SHORT_WIDTHS" "[I") (.int 2)) (.int 18)) (by decide +kernel))) hA
  exact ⟨t, h2, va_Zref (hts (.laysStatic "BarCodes$Form" "SHORT_WIDTHS" "[I") (by decide +kernel)) (hts (.initialized "BarCodes$Form") (by decide +kernel)) h1 hA⟩
theorem ws_aQ {args : Array Value} {s : State} {A : Nat → Prop} (hgv : (Jvm.Cond.and given_1 narrow_1).before args s = true) (hts : ∀ w ∈ lw_tbl, w.before args s = true) (hA : ∀ a : Nat, a < s.heap.size → ¬ A a) : ∃ aQ : Nat, va_T .int aQ 2 (fun j => .int (tQ j)) A s s.heap ∧ va_Z "BarCodes$Form" "SQUARE_WIDTHS" "[I" (.ref aQ) A s s.heap := by
  have hq := flat_of_before _ hgv
  obtain ⟨t, h1, h2⟩ := va_Tof (tm := (.static "BarCodes$Form" "SQUARE_WIDTHS" "[I")) (ty := .int) (N := 2) (f := fun j => .int (tQ j)) (A := A) (by decide) (hq (.arrayOf (.static "BarCodes$Form" "SQUARE_WIDTHS" "[I") .int) (by decide +kernel)) (va_eqt (hq (.eq (.length (.static "BarCodes$Form" "SQUARE_WIDTHS" "[I")) (.int 2)) (by decide +kernel))) (fun j hj => by
    have : j = 0 ∨ j = 1 := by omega
    rcases this with rfl | rfl
    · exact va_eqt (hq (.eq (.elem (.static "BarCodes$Form" "SQUARE_WIDTHS" "[I") (.int 0)) (.int 12)) (by decide +kernel))
    · exact va_eqt (hq (.eq (.elem (.static "BarCodes$Form" "SQUARE_WIDTHS" "[I") (.int 1)) (.int 36)) (by decide +kernel))) hA
  exact ⟨t, h2, va_Zref (hts (.laysStatic "BarCodes$Form" "SQUARE_WIDTHS" "[I") (by decide +kernel)) (hts (.initialized "BarCodes$Form") (by decide +kernel)) h1 hA⟩
theorem ws_aT {args : Array Value} {s : State} {A : Nat → Prop} (hgv : (Jvm.Cond.and given_1 narrow_1).before args s = true) (hts : ∀ w ∈ lw_tbl, w.before args s = true) (hA : ∀ a : Nat, a < s.heap.size → ¬ A a) : ∃ aT : Nat, va_T .int aT 4 (fun j => .int (tT j)) A s s.heap ∧ va_Z "BarCodes$Form" "TAG_ENDS" "[I" (.ref aT) A s s.heap := by
  have hq := flat_of_before _ hgv
  obtain ⟨t, h1, h2⟩ := va_Tof (tm := (.static "BarCodes$Form" "TAG_ENDS" "[I")) (ty := .int) (N := 4) (f := fun j => .int (tT j)) (A := A) (by decide) (hq (.arrayOf (.static "BarCodes$Form" "TAG_ENDS" "[I") .int) (by decide +kernel)) (va_eqt (hq (.eq (.length (.static "BarCodes$Form" "TAG_ENDS" "[I")) (.int 4)) (by decide +kernel))) (fun j hj => by
    have : j = 0 ∨ j = 1 ∨ j = 2 ∨ j = 3 := by omega
    rcases this with rfl | rfl | rfl | rfl
    · exact va_eqt (hq (.eq (.elem (.static "BarCodes$Form" "TAG_ENDS" "[I") (.int 0)) (.int 1)) (by decide +kernel))
    · exact va_eqt (hq (.eq (.elem (.static "BarCodes$Form" "TAG_ENDS" "[I") (.int 1)) (.int 0)) (by decide +kernel))
    · exact va_eqt (hq (.eq (.elem (.static "BarCodes$Form" "TAG_ENDS" "[I") (.int 2)) (.int 1)) (by decide +kernel))
    · exact va_eqt (hq (.eq (.elem (.static "BarCodes$Form" "TAG_ENDS" "[I") (.int 3)) (.int 1)) (by decide +kernel))) hA
  exact ⟨t, h2, va_Zref (hts (.laysStatic "BarCodes$Form" "TAG_ENDS" "[I") (by decide +kernel)) (hts (.initialized "BarCodes$Form") (by decide +kernel)) h1 hA⟩
theorem ws_aG {args : Array Value} {s : State} {A : Nat → Prop} (hgv : (Jvm.Cond.and given_1 narrow_1).before args s = true) (hts : ∀ w ∈ lw_tbl, w.before args s = true) (hA : ∀ a : Nat, a < s.heap.size → ¬ A a) : ∃ aG : Nat, va_T .int aG 1 (fun j => .int (tTg j)) A s s.heap ∧ va_Z "BarCodes$Form" "TAG_WIDTHS" "[I" (.ref aG) A s s.heap := by
  have hq := flat_of_before _ hgv
  obtain ⟨t, h1, h2⟩ := va_Tof (tm := (.static "BarCodes$Form" "TAG_WIDTHS" "[I")) (ty := .int) (N := 1) (f := fun j => .int (tTg j)) (A := A) (by decide) (hq (.arrayOf (.static "BarCodes$Form" "TAG_WIDTHS" "[I") .int) (by decide +kernel)) (va_eqt (hq (.eq (.length (.static "BarCodes$Form" "TAG_WIDTHS" "[I")) (.int 1)) (by decide +kernel))) (fun j hj => by
    have : j = 0 := by omega
    subst this
    · exact va_eqt (hq (.eq (.elem (.static "BarCodes$Form" "TAG_WIDTHS" "[I") (.int 0)) (.int 18)) (by decide +kernel))) hA
  exact ⟨t, h2, va_Zref (hts (.laysStatic "BarCodes$Form" "TAG_WIDTHS" "[I") (by decide +kernel)) (hts (.initialized "BarCodes$Form") (by decide +kernel)) h1 hA⟩
theorem ws_aM {args : Array Value} {s : State} {A : Nat → Prop} (hgv : (Jvm.Cond.and given_1 narrow_1).before args s = true) (hts : ∀ w ∈ lw_tbl, w.before args s = true) (hA : ∀ a : Nat, a < s.heap.size → ¬ A a) : ∃ aM : Nat, va_T .int aM 4 (fun j => .int (tM j)) A s s.heap ∧ va_Z "BarCodes$Square" "MASK_SIGNS" "[I" (.ref aM) A s s.heap := by
  have hq := flat_of_before _ hgv
  obtain ⟨t, h1, h2⟩ := va_Tof (tm := (.static "BarCodes$Square" "MASK_SIGNS" "[I")) (ty := .int) (N := 4) (f := fun j => .int (tM j)) (A := A) (by decide) (hq (.arrayOf (.static "BarCodes$Square" "MASK_SIGNS" "[I") .int) (by decide +kernel)) (va_eqt (hq (.eq (.length (.static "BarCodes$Square" "MASK_SIGNS" "[I")) (.int 4)) (by decide +kernel))) (fun j hj => by
    have : j = 0 ∨ j = 1 ∨ j = 2 ∨ j = 3 := by omega
    rcases this with rfl | rfl | rfl | rfl
    · exact va_eqt (hq (.eq (.elem (.static "BarCodes$Square" "MASK_SIGNS" "[I") (.int 0)) (.int 0)) (by decide +kernel))
    · exact va_eqt (hq (.eq (.elem (.static "BarCodes$Square" "MASK_SIGNS" "[I") (.int 1)) (.int 7)) (by decide +kernel))
    · exact va_eqt (hq (.eq (.elem (.static "BarCodes$Square" "MASK_SIGNS" "[I") (.int 2)) (.int 11)) (by decide +kernel))
    · exact va_eqt (hq (.eq (.elem (.static "BarCodes$Square" "MASK_SIGNS" "[I") (.int 3)) (.int 12)) (by decide +kernel))) hA
  exact ⟨t, h2, va_Zref (hts (.laysStatic "BarCodes$Square" "MASK_SIGNS" "[I") (by decide +kernel)) (hts (.initialized "BarCodes$Square") (by decide +kernel)) h1 hA⟩
theorem ws_str {args : Array Value} {s : State} {own tx : String} {k : Nat} {cur : ClassId} (hcur : s.vm.findClass own = some cur) (h : (Cond.stringRef own k tx).before args s = true) : ∃ a, vk_R own k tx a s := by
  obtain ⟨_, _, _, a, _, _, _, _, _, h6⟩ := Cond.stringRef_spec hcur h
  exact ⟨a, vk_R.of h h6⟩
theorem ws_xw {args : Array Value} {s : State} {cur : ClassId} (hcur : s.vm.findClass RX4 = some cur) (hgv : (Jvm.Cond.and given_1 narrow_1).before args s = true) (hts : ∀ w ∈ lw_tbl, w.before args s = true) : xw s := by
  have hq := flat_of_before _ hgv
  exact ⟨va_Nw.of rfl (hts (.castable "java/lang/IndexOutOfBoundsException" "java/lang/IndexOutOfBoundsException") (by decide +kernel)), va_Nw.of rfl (hts (.castable "java/lang/IllegalArgumentException" "java/lang/IllegalArgumentException") (by decide +kernel)), va_Nw.of rfl (hts (.castable "java/lang/IllegalStateException" "java/lang/IllegalStateException") (by decide +kernel)), va_Nw.of rfl (hts (.castable "java/lang/ArithmeticException" "java/lang/ArithmeticException") (by decide +kernel)), va_Nw.of rfl (hts (.castable "java/lang/ArrayIndexOutOfBoundsException" "java/lang/ArrayIndexOutOfBoundsException") (by decide +kernel)), va_Nw.of rfl (hts (.declares ⟨"java/lang/RuntimeException", "<init>", "(Ljava/lang/String;)V"⟩) (by decide +kernel)), va_Nw.of rfl (hts (.declares ⟨"java/lang/Exception", "<init>", "(Ljava/lang/String;)V"⟩) (by decide +kernel)), va_Nw.of rfl (hts (.declares ⟨"java/lang/Throwable", "<init>", "(Ljava/lang/String;)V"⟩) (by decide +kernel)), va_Nw.of rfl (hts (.declares ⟨"java/lang/IndexOutOfBoundsException", "<init>", "(Ljava/lang/String;)V"⟩) (by decide +kernel)), va_Nc.of (hq (.not (.castable "java/lang/IllegalArgumentException" "java/lang/IndexOutOfBoundsException")) (by decide +kernel)), va_Nc.of (hq (.not (.castable "java/lang/IllegalStateException" "java/lang/IllegalArgumentException")) (by decide +kernel)), ws_str hcur (hts (.stringRef RX4 91 "there is no such field") (by decide +kernel)), ws_str hcur (hts (.stringRef RX4 98 "the value does not fit the field") (by decide +kernel)), ws_str hcur (hts (.stringRef RX4 122 "there is no such bar") (by decide +kernel)), ws_str hcur (hts (.stringRef RX4 128 "no bar of this form is like that") (by decide +kernel)), ws_str hcur (hts (.stringRef RX4 132 "no more can be read") (by decide +kernel)), ws_str hcur (hts (.stringRef RX4 164 "division by 0") (by decide +kernel))⟩
theorem ws_xz {args : Array Value} {s : State} {A : Nat → Prop} (hgv : (Jvm.Cond.and given_1 narrow_1).before args s = true) (hts : ∀ w ∈ lw_tbl, w.before args s = true) (hA : ∀ a : Nat, a < s.heap.size → ¬ A a) : xz A s s.heap := by
  have hq := flat_of_before _ hgv
  exact ⟨vx_Zqof (hts (.laysStatic "java/lang/Throwable" "UNASSIGNED_STACK" "[Ljava/lang/StackTraceElement;") (by decide +kernel)) (hts (.initialized "java/lang/Throwable") (by decide +kernel)) (hq (.isRef (.static "java/lang/Throwable" "UNASSIGNED_STACK" "[Ljava/lang/StackTraceElement;")) (by decide +kernel)) hA, vx_Zqof (hts (.laysStatic "java/lang/Throwable" "SUPPRESSED_SENTINEL" "Ljava/util/List;") (by decide +kernel)) (hts (.initialized "java/lang/Throwable") (by decide +kernel)) (hq (.isRef (.static "java/lang/Throwable" "SUPPRESSED_SENTINEL" "Ljava/util/List;")) (by decide +kernel)) hA⟩
theorem wsL_lawX_in : ∀ w ∈ wsL_lawX, w ∈ lw_tbl := by
  intro w hw
  rcases List.mem_append.mp hw with h | h
  · exact wsL_law_in w h
  · exact (show ∀ w ∈ (Cond.classLink RL 21 "java/lang/ArrayIndexOutOfBoundsException" :: (vx_atS RX4 124 "java/lang/ArrayIndexOutOfBoundsException" ["java/lang/IndexOutOfBoundsException", "java/lang/RuntimeException", "java/lang/Exception"]).filter goodWord), w ∈ lw_tbl by decide +kernel) w h
