/-! AT THE LAW'S ENTRY (by program): what the tables and the premises say there -/
theorem lt_1 {w : Cond} (i : Nat) (h : tables_1_1[i]? = some w) : w ∈ lw_tbl := List.mem_append_right _ (show w ∈ tables_1 from List.mem_append_left _ (List.mem_of_getElem? h))
theorem lt_2 {w : Cond} (i : Nat) (h : tables_1_2[i]? = some w) : w ∈ lw_tbl := List.mem_append_right _ (show w ∈ tables_1 from List.mem_append_right _ (List.mem_append_left _ (List.mem_of_getElem? h)))
theorem lt_3 {w : Cond} (i : Nat) (h : tables_1_3[i]? = some w) : w ∈ lw_tbl := List.mem_append_right _ (show w ∈ tables_1 from List.mem_append_right _ (List.mem_append_right _ (List.mem_append_left _ (List.mem_of_getElem? h))))
theorem lt_4 {w : Cond} (i : Nat) (h : tables_1_4[i]? = some w) : w ∈ lw_tbl := List.mem_append_right _ (show w ∈ tables_1 from List.mem_append_right _ (List.mem_append_right _ (List.mem_append_right _ (List.mem_append_left _ (List.mem_of_getElem? h)))))
theorem lt_5 {w : Cond} (i : Nat) (h : tables_1_5[i]? = some w) : w ∈ lw_tbl := List.mem_append_right _ (show w ∈ tables_1 from List.mem_append_right _ (List.mem_append_right _ (List.mem_append_right _ (List.mem_append_right _ (List.mem_append_left _ (List.mem_of_getElem? h))))))
theorem lt_6 {w : Cond} (i : Nat) (h : tables_1_6[i]? = some w) : w ∈ lw_tbl := List.mem_append_right _ (show w ∈ tables_1 from List.mem_append_right _ (List.mem_append_right _ (List.mem_append_right _ (List.mem_append_right _ (List.mem_append_right _ (List.mem_append_left _ (List.mem_of_getElem? h)))))))
theorem lt_7 {w : Cond} (i : Nat) (h : tables_1_7[i]? = some w) : w ∈ lw_tbl := List.mem_append_right _ (show w ∈ tables_1 from List.mem_append_right _ (List.mem_append_right _ (List.mem_append_right _ (List.mem_append_right _ (List.mem_append_right _ (List.mem_append_right _ (List.mem_append_left _ (List.mem_of_getElem? h))))))))
theorem lt_8 {w : Cond} (i : Nat) (h : tables_1_8[i]? = some w) : w ∈ lw_tbl := List.mem_append_right _ (show w ∈ tables_1 from List.mem_append_right _ (List.mem_append_right _ (List.mem_append_right _ (List.mem_append_right _ (List.mem_append_right _ (List.mem_append_right _ (List.mem_append_right _ (List.mem_of_getElem? h))))))))
theorem in_9 : Cond.instantiable RX9 10 ∈ AW ∧ Cond.initialized RX9 ∈ AW := ⟨aw_1 27 (by decide +kernel), aw_1 1 (by decide +kernel)⟩
theorem gi_9 : .code yX9_init cX9_init 1 none ∈ AW ∧ .initialized yX9_init.cls ∈ AW ∧ (yX9_init.cls ≠ "java/lang/invoke/MethodHandle" ∧ yX9_init.cls ≠ "java/lang/invoke/VarHandle" ∧ (parseMethodDescriptor yX9_init.desc).map (fun d => d.parameters.length) = some 0) ∧ plainName yX9_init.cls = true ∧ yX9_init.name = "<init>" ∧ .instanceMethod yX9_init ∈ AW := ⟨aw_1 30 (by decide +kernel), aw_1 1 (by decide +kernel), by decide +kernel, by decide +kernel, rfl, aw_1 29 (by decide +kernel)⟩
theorem in_10 : Cond.instantiable RX10 58 ∈ AW ∧ Cond.initialized RX10 ∈ AW := ⟨aw_5 186 (by decide +kernel), aw_1 11 (by decide +kernel)⟩
theorem gi_10 : .code yX10_init cX10_init 1 none ∈ AW ∧ .initialized yX10_init.cls ∈ AW ∧ (yX10_init.cls ≠ "java/lang/invoke/MethodHandle" ∧ yX10_init.cls ≠ "java/lang/invoke/VarHandle" ∧ (parseMethodDescriptor yX10_init.desc).map (fun d => d.parameters.length) = some 0) ∧ plainName yX10_init.cls = true ∧ yX10_init.name = "<init>" ∧ .instanceMethod yX10_init ∈ AW := ⟨aw_5 189 (by decide +kernel), aw_1 11 (by decide +kernel), by decide +kernel, by decide +kernel, rfl, aw_5 188 (by decide +kernel)⟩
theorem kl_L_8 : Cond.classLink RL 8 RX9 ∈ AW := aw_1 26 (by decide +kernel)
theorem kl_L_133 : Cond.classLink RL 133 RX10 ∈ AW := aw_5 185 (by decide +kernel)
theorem il_L_132 : Cond.methodLink RL 132 yX9_init ∈ AW := aw_1 28 (by decide +kernel)
theorem il_L_135 : Cond.methodLink RL 135 yX10_init ∈ AW := aw_5 187 (by decide +kernel)
theorem ac_long : Cond.arrayClass .long ∈ AW := aw_8 26 (by decide +kernel)
theorem ac_double : Cond.arrayClass .double ∈ AW := aw_8 27 (by decide +kernel)
theorem df_9 : ∀ j, j < 10 → defaultValue (tyX9 j) = vp_V [.null, .null, .null, .null, .null, .null, .null, .null, .int 0, .int 0] j := by decide +kernel
theorem df_10 : ∀ j, j < 58 → defaultValue (tyX10 j) = vp_V [.int 0, .null, .null, .null, .null, .null, .null, .int 0, .int 0, .null, .null, .null, .null, .int 0, .int 0, .int 0, .int 0, .int 0, .int 0, .int 0, .int 0, .int 0, .int 0, .int 0, .null, .null, .null, .null, .int 0, .int 0, .int 0, .int 0, .null, .null, .null, .null, .null, .null, .null, .int 0, .null, .null, .int 0, .int 0, .int 0, .int 0, .null, .null, .null, .null, .null, .null, .int 0, .int 0, .int 0, .int 0, .null, .int 0] j := by decide +kernel
theorem nw_start {s : State} {A : Array Value} (hts : ∀ w ∈ lw_tbl, w.before A s = true) : NW s := by
  intro w hw
  refine va_Nw.of (nw_tab w hw) (A := A) (hts w ?_)
  simp only [nwL, List.mem_cons, List.not_mem_nil, or_false] at hw
  rcases hw with rfl | rfl | rfl | rfl | rfl | rfl | rfl | rfl | rfl
  · exact lt_3 84 (by decide +kernel)
  · exact lt_3 151 (by decide +kernel)
  · exact lt_3 219 (by decide +kernel)
  · exact lt_4 103 (by decide +kernel)
  · exact lt_5 4 (by decide +kernel)
  · exact lt_5 132 (by decide +kernel)
  · exact lt_3 85 (by decide +kernel)
  · exact lt_3 87 (by decide +kernel)
  · exact lt_3 89 (by decide +kernel)
theorem ao_start {s : State} {A : Array Value} (hts : ∀ w ∈ lw_tbl, w.before A s = true) : va_AO "TabuSolver$Problem" s ∧ va_AOA .int s := ⟨va_AO.of (hts (.arrayOver (.object "TabuSolver$Problem")) (lt_1 100 (by decide +kernel))), hts (.arrayOver (.array .int)) (lt_1 146 (by decide +kernel))⟩
theorem cw_start {s : State} {A : Array Value} (hts : ∀ w ∈ lw_tbl, w.before A s = true) : CW s := by
  refine ⟨fun w hw => va_Nw.of (cw_tab w hw) (A := A) (hts w ?_), ao_start hts⟩
  simp only [cwL, List.mem_cons, List.not_mem_nil, or_false] at hw
  rcases hw with rfl | rfl | rfl | rfl | rfl | rfl | rfl | rfl | rfl
  · exact lt_1 36 (by decide +kernel)
  · exact lt_1 101 (by decide +kernel)
  · exact lt_1 115 (by decide +kernel)
  · exact lt_1 141 (by decide +kernel)
  · exact lt_1 149 (by decide +kernel)
  · exact lt_1 167 (by decide +kernel)
  · exact lt_1 224 (by decide +kernel)
  · exact lt_2 18 (by decide +kernel)
  · exact lt_2 53 (by decide +kernel)
theorem nc_start {s : State} {A : Array Value} (hgv : (Jvm.Cond.and given_1 narrow_1).before A s = true) : NC4 s := by
  have hg := flat_of_before _ hgv
  intro q hq
  simp only [nwC, List.mem_cons, List.not_mem_nil, or_false] at hq
  rcases hq with rfl | rfl | rfl | rfl
  · exact va_Nc.of (hg (.not (.castable "java/lang/IllegalStateException" "java/lang/IllegalArgumentException")) (by decide +kernel))
  · exact va_Nc.of (hg (.not (.castable "java/lang/IllegalArgumentException" "java/lang/IndexOutOfBoundsException")) (by decide +kernel))
  · exact va_Nc.of (hg (.not (.castable "java/lang/IllegalStateException" "java/lang/IndexOutOfBoundsException")) (by decide +kernel))
  · exact va_Nc.of (hg (.not (.castable "java/util/NoSuchElementException" "java/lang/IndexOutOfBoundsException")) (by decide +kernel))
theorem zq_start {s : State} {A : Array Value} {ad : Nat → Nat} (hts : ∀ w ∈ lw_tbl, w.before A s = true) (hgv : (Jvm.Cond.and given_1 narrow_1).before A s = true) (hnew : ∀ c, c < NC → s.heap.size ≤ ad c) : ZQ ad s s.heap := by
  have hg := flat_of_before _ hgv
  have hA : ∀ a : Nat, a < s.heap.size → ¬ AD ad a := fun a h1 ⟨c, h2, h3⟩ => by
    have := hnew c h2
    omega
  exact ⟨vx_Zqof (hts (.laysStatic "java/lang/Throwable" "UNASSIGNED_STACK" "[Ljava/lang/StackTraceElement;") (lt_3 109 (by decide +kernel))) (hts (.initialized "java/lang/Throwable") (lt_1 15 (by decide +kernel))) (hg (.isRef (.static "java/lang/Throwable" "UNASSIGNED_STACK" "[Ljava/lang/StackTraceElement;")) (by decide +kernel)) hA, vx_Zqof (hts (.laysStatic "java/lang/Throwable" "SUPPRESSED_SENTINEL" "Ljava/util/List;") (lt_3 111 (by decide +kernel))) (hts (.initialized "java/lang/Throwable") (lt_1 15 (by decide +kernel))) (hg (.isRef (.static "java/lang/Throwable" "SUPPRESSED_SENTINEL" "Ljava/util/List;")) (by decide +kernel)) hA⟩
theorem kn_start {s : State} {A : Array Value} (hA : ∀ w ∈ AW, w.before A s = true) : ∀ (k : Nat) (q : vw_C), wCl[k]? = some q → ∃ (cC : ClassId) (iS : Nat → Nat), u_Kn s q.1 q.2.1 q.2.2 cC iS := by
  intro k q hq
  match k, hq with
  | 0, hq => cases hq; exact u_known hA ck_0.2.1 (hA _ in_0.1)
  | 1, hq => cases hq; exact u_known hA ck_1.2.1 (hA _ in_1.1)
  | 2, hq => cases hq; exact u_known hA ck_2.2.1 (hA _ in_2.1)
  | 3, hq => cases hq; exact u_known hA ck_3.2.1 (hA _ in_3.1)
  | 4, hq => cases hq; exact u_known hA ck_4.2.1 (hA _ in_4.1)
  | 5, hq => cases hq; exact u_known hA ck_5.2.1 (hA _ in_5.1)
  | 6, hq => cases hq; exact u_known hA ck_6.2.1 (hA _ in_6.1)
  | 7, hq => cases hq; exact u_known hA ck_7.2.1 (hA _ in_7.1)
  | 8, hq => cases hq; exact u_known hA ck_8.2.1 (hA _ in_8.1)
  | 9, hq => cases hq; exact u_known hA ck_9.2.1 (hA _ in_9.1)
  | 10, hq => cases hq; exact u_known hA ck_10.2.1 (hA _ in_10.1)
  | k + 11, hq => simp [wCl] at hq
theorem kd_start {s : State} {A : Array Value} (hA : ∀ w ∈ AW, w.before A s = true) : ∃ D : va_G, ∀ (k : Nat) (q : vw_C), wCl[k]? = some q → u_Kn s q.1 q.2.1 q.2.2 (D.1 k) (D.2 k) := by
  obtain ⟨c0, i0, -⟩ := kn_start hA 0 _ rfl
  have h : ∀ k : Nat, ∃ p : ClassId × (Nat → Nat), ∀ q : vw_C, wCl[k]? = some q → u_Kn s q.1 q.2.1 q.2.2 p.1 p.2 := by
    intro k
    cases hk : wCl[k]? with
    | none => exact ⟨(c0, i0), fun q h => by cases h⟩
    | some q =>
      obtain ⟨cC, iS, h⟩ := kn_start hA k q hk
      exact ⟨(cC, iS), fun q' h' => by cases h'; exact h⟩
  obtain ⟨f, hf⟩ := Classical.axiomOfChoice h
  exact ⟨(fun k => (f k).1, fun k => (f k).2), fun k q hq => hf k q hq⟩
theorem ay_of {s : State} {A : Array Value} {ty : FieldType} (hne : ∀ C, ty ≠ .object C) (h : (Cond.arrayClass ty).before A s = true) : ∃ c : ClassId, ArrOfT s c ty ∧ va_RA s c ty := by
  obtain ⟨c, k, comp, h1, h2, h3⟩ := Cond.arrayClass_spec h
  refine ⟨c, fun n z => ⟨fun k h => (by cases h), k, h2, comp, h3⟩, ?_⟩
  cases ty with
  | object C => exact absurd rfl (hne C)
  | _ => exact h1
theorem ay_P {s : State} (h : va_AO "TabuSolver$Problem" s) : ∃ c : ClassId, ArrOfT s c (.object "TabuSolver$Problem") ∧ va_RA s c (.object "TabuSolver$Problem") := by
  obtain ⟨comp, c, k, h1, h2, h3, h4, h5⟩ := Cond.arrayOver_spec h
  exact ⟨c, fun n z => ⟨fun k h => (by cases h), k, h3, comp, h4⟩, k, comp, h3, h4, h1, h5⟩
theorem ay_A {s : State} (h : va_AOA .int s) : ∃ c : ClassId, ArrOfT s c (.array .int) ∧ va_RA s c (.array .int) := by
  obtain ⟨comp, c, k, h1, h3, h4, h5⟩ := Jvm.Cond.arrayOver_specA h
  exact ⟨c, fun n z => ⟨fun k h => (by cases h), k, h3, comp, h4⟩, h5⟩
theorem ky_start {s : State} {A : Array Value} (hA : ∀ w ∈ AW, w.before A s = true) (hO : va_AO "TabuSolver$Problem" s ∧ va_AOA .int s) : ∃ cy : Nat → ClassId, ∀ (k : Nat) (q : ClassId × FieldType), (tyL cy)[k]? = some q → ArrOfT s q.1 q.2 ∧ va_RA s q.1 q.2 := by
  obtain ⟨c0, h0⟩ := ay_of (fun C h => by cases h) (hA _ ac_int)
  obtain ⟨c1, h1⟩ := ay_of (fun C h => by cases h) (hA _ ac_char)
  obtain ⟨c2, h2⟩ := ay_of (fun C h => by cases h) (hA _ ac_boolean)
  obtain ⟨c3, h3⟩ := ay_A hO.2
  obtain ⟨c4, h4⟩ := ay_P hO.1
  obtain ⟨c5, h5⟩ := ay_of (fun C h => by cases h) (hA _ ac_long)
  obtain ⟨c6, h6⟩ := ay_of (fun C h => by cases h) (hA _ ac_double)
  refine ⟨fun k => if k = 0 then c0 else if k = 1 then c1 else if k = 2 then c2 else if k = 3 then c3 else if k = 4 then c4 else if k = 5 then c5 else c6, fun k q hq => ?_⟩
  match k, hq with
  | 0, hq => cases hq; exact h0
  | 1, hq => cases hq; exact h1
  | 2, hq => cases hq; exact h2
  | 3, hq => cases hq; exact h3
  | 4, hq => cases hq; exact h4
  | 5, hq => cases hq; exact h5
  | 6, hq => cases hq; exact h6
  | k + 7, hq => simp [tyL] at hq
