/-! the law: its context -/
def wsL_lawX : List Cond := wsL_law ++ (Cond.classLink RL 21 "java/lang/ArrayIndexOutOfBoundsException" :: (vx_atS RX4 124 "java/lang/ArrayIndexOutOfBoundsException" ["java/lang/IndexOutOfBoundsException", "java/lang/RuntimeException", "java/lang/Exception"]).filter goodWord)
theorem gL_law_L_barX : GoodIn wsL_lawX (va_wsS RL 67 yL_bar wsL_barX) := by
  intro w hw
  rcases List.mem_append.mp hw with h | h
  · have q := gL_law_L_bar w (List.mem_append_left _ h)
    exact ⟨List.mem_append_left _ q.1, q.2⟩
  · rcases List.mem_append.mp h with h | h
    · have q := gL_law_L_bar w (List.mem_append_right _ h)
      exact ⟨List.mem_append_left _ q.1, q.2⟩
    · refine ⟨List.mem_append_right _ h, ?_⟩
      rcases List.mem_cons.mp h with h | h
      · rw [h]; exact good_of_word (by decide +kernel)
      · exact good_of_word (List.mem_filter.mp h).2
/-! THE CLAIM OUT OF ONE WALK OF THE LAW'S BODY. Your part is whole_start (and what it stands on); all else here is the same for every law, but numbers. -/
def R_law : String := "BarCodesLaw"
def lw_P (b : Addr) (xs : List Int32) (args : Array Value) (s : State) : Prop := args = #[.ref b] ∧ s.IntsAt b xs ∧ xs.length ≤ 2049 ∧ (Jvm.Cond.and given_1 narrow_1).before args s = true
def lw_Q (_ : Array Value) (s : State) (o : Outcome) (t : State) : Prop := o = .returned (some (.int 1)) ∧ Framed s o t [] 613694 7254988
def lw_Z (below : List Frame) (a : Array Value) (s : State) : State → Prop := fun t => ∃ o, t.status = .running ∧ Ended t below o ∧ lw_Q a s o t
/-- the law's own end, with 1 on the stack, nothing written that was there before, its room as the claim has it -/
theorem lw_ret {p : Program} {l : Launch} {e : Env} {s : State} {m : MethodId} {below : List Frame} {meth : Method} {c : Code} {b : Nat} (hx : p.tables.exec = Jvm.exec) (hb : c.code = code) (hr : meth.sig.returnType = ret) (hlocks : meth.locks = false) {pc : Nat} {H : Heap} {ls : Array Slot} (hdg : decode code pc = .ok (.ireturn, 1)) : W p l e room_1 s m #[Value.ref b] below meth c H [] 613694 7254988 (lw_Z below #[Value.ref b] s) (F0 m pc ls [.int 1]) := by
  intro T hT X
  obtain ⟨fs, hret, hrun, hended, hW, hframe⟩ := X.leave (v := some (.int 1)) (hlocks := hlocks) (fun h => by rw [hr] at h; cases h)
  have hmeth' : T.vm.method? m = some meth := X.method'
  refine ⟨T.setFrames fs, ?_, .returned (some (.int 1)), hrun, hended, rfl, ⟨_, rfl⟩, hW, hframe⟩
  jvm_step X.here [X.here.top, hx, hb, hdg, hmeth', hr, ret, narrow_b1]
  (try refine ⟨rfl, ?_⟩); (try refine ⟨rfl, ?_⟩)
  first | (intro acts; rw [hret _ acts rfl rfl rfl]) | rw [hret _ _ rfl rfl rfl]
  exact Steps.refl _
/-- what holds at the law's entry: the machine, the code, the tables' words (any of lw_tbl by 'hts w (by decide +kernel)'), the script of L ints xs at the cell b, what the Statement gives of the start (any of its parts by flat_of_before) -/
def lw_At (p : Program) (s : State) (m : MethodId) (meth : Method) (c : Code) (b L : Nat) (xs : Nat → Int32) : Prop :=
  p.tables.exec = Jvm.exec ∧ c.code = code ∧ meth.sig.returnType = ret ∧ c.maxLocals = 8 ∧ s.vm.findClass R_law = some m.cls ∧ (∀ w ∈ lw_tbl, w.before #[Value.ref b] s = true) ∧ va_X b L xs s s.heap ∧ b < s.heap.size ∧ meth.locks = false ∧ (Jvm.Cond.and given_1 narrow_1).before #[Value.ref b] s = true
def LC (p : Program) (l : Launch) (s : State) (m : MethodId) (meth : Method) (c : Code) (A : Nat → Prop) (Q : State → Prop) (below : List Frame) (dC : Nat → ClassId) (dI : Nat → Nat → Nat) (cI cJ cZ : ClassId) (a_p0 n_p0 : Nat) (f_p0 : Nat → Int32) (aE aT aM aS aL aQ aG : Nat) : Prop := p.tables.exec = Jvm.exec ∧ c.code = code ∧ meth.sig.returnType = ret ∧ c.maxLocals = 8 ∧ s.vm.findClass RL = some m.cls ∧ (∀ w ∈ wsL_law, w.before #[Value.ref a_p0] s = true) ∧ (∀ w ∈ wsL_lawX, w.before #[Value.ref a_p0] s = true) ∧ meth.locks = false ∧ l.stackTraces = false ∧ (∀ q : Nat, s.heap.size ≤ q → A q) ∧ (∀ q : Nat, A q → s.heap.size ≤ q) ∧ va_K (dC, dI) vwCl [(cI, .int), (cJ, .long), (cZ, .boolean)] s ∧ Q = lw_Z below #[Value.ref a_p0] s ∧ va_T .int a_p0 n_p0 (fun j => .int (f_p0 j)) A s s.heap ∧ va_T .int aE 4 (fun j => .int (tE j)) A s s.heap ∧ va_T .int aL 4 (fun j => .int (tLg j)) A s s.heap ∧ va_T .int aS 3 (fun j => .int (tS j)) A s s.heap ∧ va_T .int aQ 2 (fun j => .int (tQ j)) A s s.heap ∧ va_T .int aT 4 (fun j => .int (tT j)) A s s.heap ∧ va_T .int aG 1 (fun j => .int (tTg j)) A s s.heap ∧ va_T .int aM 4 (fun j => .int (tM j)) A s s.heap ∧ va_Z "BarCodes$Form" "FOUR_HEIGHT_ENDS" "[I" (.ref aE) A s s.heap ∧ va_Z "BarCodes$Form" "LONG_WIDTHS" "[I" (.ref aL) A s s.heap ∧ va_Z "BarCodes$Form" "SHORT_WIDTHS" "[I" (.ref aS) A s s.heap ∧ va_Z "BarCodes$Form" "SQUARE_WIDTHS" "[I" (.ref aQ) A s s.heap ∧ va_Z "BarCodes$Form" "TAG_ENDS" "[I" (.ref aT) A s s.heap ∧ va_Z "BarCodes$Form" "TAG_WIDTHS" "[I" (.ref aG) A s s.heap ∧ va_Z "BarCodes$Square" "MASK_SIGNS" "[I" (.ref aM) A s s.heap ∧ xw s ∧ xz A s s.heap
