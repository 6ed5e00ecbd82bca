/-! What a throw needs of the tables, and of Throwable's statics. -/
def xw (U : State) : Prop := (va_Nw (.castable "java/lang/IndexOutOfBoundsException" "java/lang/IndexOutOfBoundsException") U) ∧ (va_Nw (.castable "java/lang/IllegalArgumentException" "java/lang/IllegalArgumentException") U) ∧ (va_Nw (.castable "java/lang/IllegalStateException" "java/lang/IllegalStateException") U) ∧ (va_Nw (.castable "java/lang/ArithmeticException" "java/lang/ArithmeticException") U) ∧ (va_Nw (.castable "java/lang/ArrayIndexOutOfBoundsException" "java/lang/ArrayIndexOutOfBoundsException") U) ∧ (va_Nw (.declares ⟨"java/lang/RuntimeException", "<init>", "(Ljava/lang/String;)V"⟩) U) ∧ (va_Nw (.declares ⟨"java/lang/Exception", "<init>", "(Ljava/lang/String;)V"⟩) U) ∧ (va_Nw (.declares ⟨"java/lang/Throwable", "<init>", "(Ljava/lang/String;)V"⟩) U) ∧ (va_Nw (.declares ⟨"java/lang/IndexOutOfBoundsException", "<init>", "(Ljava/lang/String;)V"⟩) U) ∧ (va_Nc "java/lang/IllegalArgumentException" "java/lang/IndexOutOfBoundsException" U) ∧ (va_Nc "java/lang/IllegalStateException" "java/lang/IllegalArgumentException" U) ∧ (∃ a, vk_R RX4 91 "there is no such field" a U) ∧ (∃ a, vk_R RX4 98 "the value does not fit the field" a U) ∧ (∃ a, vk_R RX4 122 "there is no such bar" a U) ∧ (∃ a, vk_R RX4 128 "no bar of this form is like that" a U) ∧ (∃ a, vk_R RX4 132 "no more can be read" a U) ∧ (∃ a, vk_R RX4 164 "division by 0" a U)
theorem xw_c_IO {U : State} (h : xw U) : va_Nw (.castable "java/lang/IndexOutOfBoundsException" "java/lang/IndexOutOfBoundsException") U := h.1
theorem xw_c_IA {U : State} (h : xw U) : va_Nw (.castable "java/lang/IllegalArgumentException" "java/lang/IllegalArgumentException") U := h.2.1
theorem xw_c_IS {U : State} (h : xw U) : va_Nw (.castable "java/lang/IllegalStateException" "java/lang/IllegalStateException") U := h.2.2.1
theorem xw_c_AE {U : State} (h : xw U) : va_Nw (.castable "java/lang/ArithmeticException" "java/lang/ArithmeticException") U := h.2.2.2.1
theorem xw_c_AI {U : State} (h : xw U) : va_Nw (.castable "java/lang/ArrayIndexOutOfBoundsException" "java/lang/ArrayIndexOutOfBoundsException") U := h.2.2.2.2.1
theorem xw_d_RE {U : State} (h : xw U) : va_Nw (.declares ⟨"java/lang/RuntimeException", "<init>", "(Ljava/lang/String;)V"⟩) U := h.2.2.2.2.2.1
theorem xw_d_EX {U : State} (h : xw U) : va_Nw (.declares ⟨"java/lang/Exception", "<init>", "(Ljava/lang/String;)V"⟩) U := h.2.2.2.2.2.2.1
theorem xw_d_TH {U : State} (h : xw U) : va_Nw (.declares ⟨"java/lang/Throwable", "<init>", "(Ljava/lang/String;)V"⟩) U := h.2.2.2.2.2.2.2.1
theorem xw_d_IO {U : State} (h : xw U) : va_Nw (.declares ⟨"java/lang/IndexOutOfBoundsException", "<init>", "(Ljava/lang/String;)V"⟩) U := h.2.2.2.2.2.2.2.2.1
theorem xw_n_IA {U : State} (h : xw U) : va_Nc "java/lang/IllegalArgumentException" "java/lang/IndexOutOfBoundsException" U := h.2.2.2.2.2.2.2.2.2.1
theorem xw_n_IS {U : State} (h : xw U) : va_Nc "java/lang/IllegalStateException" "java/lang/IllegalArgumentException" U := h.2.2.2.2.2.2.2.2.2.2.1
theorem xw_s_91 {U : State} (h : xw U) : ∃ a, vk_R RX4 91 "there is no such field" a U := h.2.2.2.2.2.2.2.2.2.2.2.1
theorem xw_s_98 {U : State} (h : xw U) : ∃ a, vk_R RX4 98 "the value does not fit the field" a U := h.2.2.2.2.2.2.2.2.2.2.2.2.1
theorem xw_s_122 {U : State} (h : xw U) : ∃ a, vk_R RX4 122 "there is no such bar" a U := h.2.2.2.2.2.2.2.2.2.2.2.2.2.1
theorem xw_s_128 {U : State} (h : xw U) : ∃ a, vk_R RX4 128 "no bar of this form is like that" a U := h.2.2.2.2.2.2.2.2.2.2.2.2.2.2.1
theorem xw_s_132 {U : State} (h : xw U) : ∃ a, vk_R RX4 132 "no more can be read" a U := h.2.2.2.2.2.2.2.2.2.2.2.2.2.2.2.1
theorem xw_s_164 {U : State} (h : xw U) : ∃ a, vk_R RX4 164 "division by 0" a U := h.2.2.2.2.2.2.2.2.2.2.2.2.2.2.2.2
theorem xw_warm {s U : State} (hW : s.WarmedH U.vm) (h : xw s) : xw U := ⟨va_Nw.warmC hW (xw_c_IO h), va_Nw.warmC hW (xw_c_IA h), va_Nw.warmC hW (xw_c_IS h), va_Nw.warmC hW (xw_c_AE h), va_Nw.warmC hW (xw_c_AI h), va_Nw.warmD hW (xw_d_RE h), va_Nw.warmD hW (xw_d_EX h), va_Nw.warmD hW (xw_d_TH h), va_Nw.warmD hW (xw_d_IO h), va_Nc.moved hW.alike (xw_n_IA h), va_Nc.moved hW.alike (xw_n_IS h), (xw_s_91 h).elim (fun a q => ⟨a, vk_R.warm hW q⟩), (xw_s_98 h).elim (fun a q => ⟨a, vk_R.warm hW q⟩), (xw_s_122 h).elim (fun a q => ⟨a, vk_R.warm hW q⟩), (xw_s_128 h).elim (fun a q => ⟨a, vk_R.warm hW q⟩), (xw_s_132 h).elim (fun a q => ⟨a, vk_R.warm hW q⟩), (xw_s_164 h).elim (fun a q => ⟨a, vk_R.warm hW q⟩)⟩
theorem xw_call {U : State} {g : JFrame} {mk : MethodId} {a : Array Value} (h : xw U) : xw (U.calling g mk a) := ⟨va_Nw.same (u := U) rfl rfl (xw_c_IO h), va_Nw.same (u := U) rfl rfl (xw_c_IA h), va_Nw.same (u := U) rfl rfl (xw_c_IS h), va_Nw.same (u := U) rfl rfl (xw_c_AE h), va_Nw.same (u := U) rfl rfl (xw_c_AI h), va_Nw.same (u := U) rfl rfl (xw_d_RE h), va_Nw.same (u := U) rfl rfl (xw_d_EX h), va_Nw.same (u := U) rfl rfl (xw_d_TH h), va_Nw.same (u := U) rfl rfl (xw_d_IO h), va_Nc.moved (u := U) (Vm.Alike.refl U.vm) (xw_n_IA h), va_Nc.moved (u := U) (Vm.Alike.refl U.vm) (xw_n_IS h), (xw_s_91 h).elim (fun a q => ⟨a, vk_R.same (u := U) rfl q⟩), (xw_s_98 h).elim (fun a q => ⟨a, vk_R.same (u := U) rfl q⟩), (xw_s_122 h).elim (fun a q => ⟨a, vk_R.same (u := U) rfl q⟩), (xw_s_128 h).elim (fun a q => ⟨a, vk_R.same (u := U) rfl q⟩), (xw_s_132 h).elim (fun a q => ⟨a, vk_R.same (u := U) rfl q⟩), (xw_s_164 h).elim (fun a q => ⟨a, vk_R.same (u := U) rfl q⟩)⟩
def xz (A : Nat → Prop) (U : State) (H : Heap) : Prop := vx_Zq Bundle.tN "UNASSIGNED_STACK" Bundle.steD A U H ∧ vx_Zq Bundle.tN "SUPPRESSED_SENTINEL" Bundle.listD A U H
theorem xz.moved {A : Nat → Prop} {u U : State} {H : Heap} (hvm : u.vm.Alike U.vm) (h : xz A u H) : xz A U H := ⟨vx_Zq.moved hvm h.1, vx_Zq.moved hvm h.2⟩
theorem xz.kept {A : Nat → Prop} {U : State} {H H1 : Heap} (h : xz A U H) (hq : ∀ a : Nat, a < H.size → ¬ A a → H1[a]? = H[a]?) : xz A U H1 := ⟨vx_Zq.kept h.1 hq, vx_Zq.kept h.2 hq⟩
theorem xz.narrow {A B : Nat → Prop} {U : State} {H : Heap} (h : xz A U H) (hAB : ∀ q, B q → A q) : xz B U H := ⟨vx_Zq.narrow h.1 hAB, vx_Zq.narrow h.2 hAB⟩
def wsX4_barX : List Cond := wsX4_bar ++ (vx_atS RX4 124 "java/lang/ArrayIndexOutOfBoundsException" ["java/lang/IndexOutOfBoundsException", "java/lang/RuntimeException", "java/lang/Exception"]).filter goodWord
def wsL_barX : List Cond := wsL_bar ++ (Cond.classLink RL 21 "java/lang/ArrayIndexOutOfBoundsException" :: (vx_atS RX4 124 "java/lang/ArrayIndexOutOfBoundsException" ["java/lang/IndexOutOfBoundsException", "java/lang/RuntimeException", "java/lang/Exception"]).filter goodWord)
theorem gL_barX : GoodIn wsL_barX (wsV RL 17 RX4 yX4_bar wsX4_barX) := by
  intro w hw
  rcases List.mem_append.mp hw with h | h
  · have q := gL_bar_X4_bar w (List.mem_append_left _ h)
    exact ⟨List.mem_append_left _ q.1, q.2⟩
  · rcases List.mem_append.mp h with h | h
    · have q := gL_bar_X4_bar w (List.mem_append_right _ h)
      exact ⟨List.mem_append_left _ q.1, q.2⟩
    · exact ⟨List.mem_append_right _ (List.mem_cons_of_mem _ h), good_of_word (List.mem_filter.mp h).2⟩
