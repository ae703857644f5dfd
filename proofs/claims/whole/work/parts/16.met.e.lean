set_option maxHeartbeats 4000000 in
set_option maxRecDepth 100000 in
theorem mX10_thrown {l : Launch} {D : va_G} {ad : Nat → Nat} {cy : Nat → ClassId} (hl : l.stackTraces = false) (hI : Inj ad)   {σ τ : Mem} {r : Int32} (h : fX10_thrown σ = some (r, τ)) : Co l D ad cy yX10_thrown cX10_thrown 1 (Option.some Jvm.ClassFile.FieldType.int) 1 100 0 [.ref (ad 124)] σ (zi r) τ := by
  refine co_of (av := [.inr 124]) hl hI (by decide +kernel) (Nat.le_of_ble_eq_true rfl) [some (.inr 124)] rfl (fun V C => ?_)
  have C : Rl l D ad cy RX10 cX10_thrown 1 (Option.some Jvm.ClassFile.FieldType.int) 1 100 0 (zi r) τ V := C
  refine r_aload_n C dX10_thrown_0 rfl ?_
  refine r_getI C ck_10 f_124_0 (by decide) fl_X10_117 rfl dX10_thrown_1 ?_
  exact r_iret C rfl (Nat.le_of_ble_eq_true rfl) dX10_thrown_4 (re_i h)
set_option maxHeartbeats 4000000 in
set_option maxRecDepth 100000 in
theorem mX10_fails {l : Launch} {D : va_G} {ad : Nat → Nat} {cy : Nat → ClassId} (hl : l.stackTraces = false) (hI : Inj ad)   {σ τ : Mem} {a1 : Int32} {r : Int32} (h : fX10_fails σ a1 = some (r, τ)) : Co l D ad cy yX10_fails cX10_fails 2 (Option.some Jvm.ClassFile.FieldType.int) 1 100 0 [.ref (ad 124), .int a1] σ (zi r) τ := by
  refine co_of (av := [.inr 124, .inl a1]) hl hI (by decide +kernel) (Nat.le_of_ble_eq_true rfl) [some (.inr 124), some (.inl a1)] rfl (fun V C => ?_)
  have C : Rl l D ad cy RX10 cX10_fails 2 (Option.some Jvm.ClassFile.FieldType.int) 1 100 0 (zi r) τ V := C
  refine r_aload_n C dX10_fails_0 rfl ?_
  refine r_iload_n C dX10_fails_1 rfl ?_
  refine r_putI C ck_10 f_124_0 (by decide) fl_X10_117 rfl rfl rfl rfl rfl dX10_fails_2 h (fun σ3 h => ?_)
  refine r_iconst C ic_0 dX10_fails_5 ?_
  exact r_iret C rfl (Nat.le_of_ble_eq_true rfl) dX10_fails_6 (re_i h)
set_option maxHeartbeats 4000000 in
set_option maxRecDepth 100000 in
theorem mX10_isBetween {l : Launch} {D : va_G} {ad : Nat → Nat} {cy : Nat → ClassId} (hl : l.stackTraces = false) (hI : Inj ad)   {σ τ : Mem} {a0 a1 a2 : Int32} {r : Int32} (h : fX10_isBetween σ a0 a1 a2 = some (r, τ)) : Co l D ad cy yX10_isBetween cX10_isBetween 3 (Option.some Jvm.ClassFile.FieldType.boolean) 1 100 0 [.int a0, .int a1, .int a2] σ (zi r) τ := by
  refine co_of (av := [.inl a0, .inl a1, .inl a2]) hl hI (by decide +kernel) (Nat.le_of_ble_eq_true rfl) [some (.inl a0), some (.inl a1), some (.inl a2)] rfl (fun V C => ?_)
  have C : Rl l D ad cy RX10 cX10_isBetween 3 (Option.some Jvm.ClassFile.FieldType.boolean) 1 100 0 (zi r) τ V := C
  have L14 : ∀ (σ : Mem), fX10_isBetween_L14   σ  = some (r, τ) → V 0 σ 14 [none, none, none] [] := by
    intro  σ  h
    refine r_iconst C ic_0 dX10_isBetween_14 ?_
    exact r_zret C rfl (Nat.le_of_ble_eq_true rfl) (Or.inl rfl) dX10_isBetween_15 (re_i h)
  refine r_iload_n C dX10_isBetween_0 rfl ?_
  refine r_iload_n C dX10_isBetween_1 rfl ?_
  refine r_ic_lt C (tgt := 14) h (by decide) dX10_isBetween_2 (fun hc h => ?_) (fun hc h => ?_)
  · refine r_weak C [none, none, none] trivial ?_
    exact L14 _ h
  · refine r_iload_n C dX10_isBetween_5 rfl ?_
    refine r_iload_n C dX10_isBetween_6 rfl ?_
    refine r_ic_gt C (tgt := 14) h (by decide) dX10_isBetween_7 (fun hc h => ?_) (fun hc h => ?_)
    · refine r_weak C [none, none, none] trivial ?_
      exact L14 _ h
    · refine r_iconst C ic_1 dX10_isBetween_10 ?_
      refine r_goto C (tgt := 15) (by decide) dX10_isBetween_11 ?_
      exact r_zret C rfl (Nat.le_of_ble_eq_true rfl) (Or.inr rfl) dX10_isBetween_15 (re_i h)
set_option maxHeartbeats 4000000 in
set_option maxRecDepth 100000 in
theorem mX10_has {l : Launch} {D : va_G} {ad : Nat → Nat} {cy : Nat → ClassId} (hl : l.stackTraces = false) (hI : Inj ad)   {σ τ : Mem} {a0 a1 : Int32} {r : Int32} (h : fX10_has σ a0 a1 = some (r, τ)) : Co l D ad cy yX10_has cX10_has 2 (Option.some Jvm.ClassFile.FieldType.boolean) 1 100 0 [.int a0, .int a1] σ (zi r) τ := by
  refine co_of (av := [.inl a0, .inl a1]) hl hI (by decide +kernel) (Nat.le_of_ble_eq_true rfl) [some (.inl a0), some (.inl a1)] rfl (fun V C => ?_)
  have C : Rl l D ad cy RX10 cX10_has 2 (Option.some Jvm.ClassFile.FieldType.boolean) 1 100 0 (zi r) τ V := C
  refine r_iload_n C dX10_has_0 rfl ?_
  refine r_iload_n C dX10_has_1 rfl ?_
  refine r_ishr C dX10_has_2 ?_
  refine r_iconst C ic_1 dX10_has_3 ?_
  refine r_iand C dX10_has_4 ?_
  refine r_iconst C ic_1 dX10_has_5 ?_
  refine r_ic_ne C (tgt := 13) h (by decide) dX10_has_6 (fun hc h => ?_) (fun hc h => ?_)
  · refine r_iconst C ic_0 dX10_has_13 ?_
    exact r_zret C rfl (Nat.le_of_ble_eq_true rfl) (Or.inl rfl) dX10_has_14 (re_i h)
  · refine r_iconst C ic_1 dX10_has_9 ?_
    refine r_goto C (tgt := 14) (by decide) dX10_has_10 ?_
    exact r_zret C rfl (Nat.le_of_ble_eq_true rfl) (Or.inr rfl) dX10_has_14 (re_i h)
set_option maxHeartbeats 4000000 in
set_option maxRecDepth 100000 in
theorem mX10_isVariable {l : Launch} {D : va_G} {ad : Nat → Nat} {cy : Nat → ClassId} (hl : l.stackTraces = false) (hI : Inj ad)   {σ τ : Mem} {a1 : Int32} {r : Int32} (h : fX10_isVariable σ a1 = some (r, τ)) : Co l D ad cy yX10_isVariable cX10_isVariable 2 (Option.some Jvm.ClassFile.FieldType.boolean) 1 100 0 [.ref (ad 124), .int a1] σ (zi r) τ := by
  refine co_of (av := [.inr 124, .inl a1]) hl hI (by decide +kernel) (Nat.le_of_ble_eq_true rfl) [some (.inr 124), some (.inl a1)] rfl (fun V C => ?_)
  have C : Rl l D ad cy RX10 cX10_isVariable 2 (Option.some Jvm.ClassFile.FieldType.boolean) 1 100 0 (zi r) τ V := C
  have L16 : ∀ (σ : Mem), fX10_isVariable_L16   σ  = some (r, τ) → V 0 σ 16 [none, none] [] := by
    intro  σ  h
    refine r_iconst C ic_0 dX10_isVariable_16 ?_
    exact r_zret C rfl (Nat.le_of_ble_eq_true rfl) (Or.inl rfl) dX10_isVariable_17 (re_i h)
  refine r_iload_n C dX10_isVariable_0 rfl ?_
  refine r_if_lt C (tgt := 16) h (by decide) dX10_isVariable_1 (fun hc h => ?_) (fun hc h => ?_)
  · refine r_weak C [none, none] trivial ?_
    exact L16 _ h
  · refine r_iload_n C dX10_isVariable_4 rfl ?_
    refine r_aload_n C dX10_isVariable_5 rfl ?_
    refine r_getI C ck_10 f_124_7 (by decide) fl_X10_120 rfl dX10_isVariable_6 ?_
    refine r_ic_ge C (tgt := 16) h (by decide) dX10_isVariable_9 (fun hc h => ?_) (fun hc h => ?_)
    · refine r_weak C [none, none] trivial ?_
      exact L16 _ h
    · refine r_iconst C ic_1 dX10_isVariable_12 ?_
      refine r_goto C (tgt := 17) (by decide) dX10_isVariable_13 ?_
      exact r_zret C rfl (Nat.le_of_ble_eq_true rfl) (Or.inr rfl) dX10_isVariable_17 (re_i h)
set_option maxHeartbeats 4000000 in
set_option maxRecDepth 100000 in
theorem mX10_isConstraint {l : Launch} {D : va_G} {ad : Nat → Nat} {cy : Nat → ClassId} (hl : l.stackTraces = false) (hI : Inj ad)   {σ τ : Mem} {a1 : Int32} {r : Int32} (h : fX10_isConstraint σ a1 = some (r, τ)) : Co l D ad cy yX10_isConstraint cX10_isConstraint 2 (Option.some Jvm.ClassFile.FieldType.boolean) 1 100 0 [.ref (ad 124), .int a1] σ (zi r) τ := by
  refine co_of (av := [.inr 124, .inl a1]) hl hI (by decide +kernel) (Nat.le_of_ble_eq_true rfl) [some (.inr 124), some (.inl a1)] rfl (fun V C => ?_)
  have C : Rl l D ad cy RX10 cX10_isConstraint 2 (Option.some Jvm.ClassFile.FieldType.boolean) 1 100 0 (zi r) τ V := C
  have L16 : ∀ (σ : Mem), fX10_isConstraint_L16   σ  = some (r, τ) → V 0 σ 16 [none, none] [] := by
    intro  σ  h
    refine r_iconst C ic_0 dX10_isConstraint_16 ?_
    exact r_zret C rfl (Nat.le_of_ble_eq_true rfl) (Or.inl rfl) dX10_isConstraint_17 (re_i h)
  refine r_iload_n C dX10_isConstraint_0 rfl ?_
  refine r_if_lt C (tgt := 16) h (by decide) dX10_isConstraint_1 (fun hc h => ?_) (fun hc h => ?_)
  · refine r_weak C [none, none] trivial ?_
    exact L16 _ h
  · refine r_iload_n C dX10_isConstraint_4 rfl ?_
    refine r_aload_n C dX10_isConstraint_5 rfl ?_
    refine r_getI C ck_10 f_124_8 (by decide) fl_X10_123 rfl dX10_isConstraint_6 ?_
    refine r_ic_ge C (tgt := 16) h (by decide) dX10_isConstraint_9 (fun hc h => ?_) (fun hc h => ?_)
    · refine r_weak C [none, none] trivial ?_
      exact L16 _ h
    · refine r_iconst C ic_1 dX10_isConstraint_12 ?_
      refine r_goto C (tgt := 17) (by decide) dX10_isConstraint_13 ?_
      exact r_zret C rfl (Nat.le_of_ble_eq_true rfl) (Or.inr rfl) dX10_isConstraint_17 (re_i h)
set_option maxHeartbeats 4000000 in
set_option maxRecDepth 100000 in
theorem mX10_membersOf {l : Launch} {D : va_G} {ad : Nat → Nat} {cy : Nat → ClassId} (hl : l.stackTraces = false) (hI : Inj ad)   {σ τ : Mem} {a0 : Int32} {r : Int32} (h : fX10_membersOf σ a0 = some (r, τ)) : Co l D ad cy yX10_membersOf cX10_membersOf 3 (Option.some Jvm.ClassFile.FieldType.int) 1 100 0 [.int a0] σ (zi r) τ := by
  refine co_of (av := [.inl a0]) hl hI (by decide +kernel) (Nat.le_of_ble_eq_true rfl) [some (.inl a0), none, none] rfl (fun V C => ?_)
  have C : Rl l D ad cy RX10 cX10_membersOf 3 (Option.some Jvm.ClassFile.FieldType.int) 1 100 0 (zi r) τ V := C
  have L4 : ∀ (n : Nat) (σ : Mem) (l0 l1 l2 : Int32), fX10_membersOf_L4  n σ l0 l1 l2 = some (r, τ) → V 0 σ 4 [some (.inl l0), some (.inl l1), some (.inl l2)] [] := by
    intro n4
    induction n4 with
    | zero => intro σ l0 l1 l2 h; exact no_e h
    | succ n4 ih4 =>
      intro σ l0 l1 l2 h
      have h : fX10_membersOf_B4  (fX10_membersOf_L4  n4) σ l0 l1 l2 = some (r, τ) := h
      refine r_iload_n C dX10_membersOf_4 rfl ?_
      refine r_bipush C bp_10 dX10_membersOf_5 ?_
      refine r_ic_ge C (tgt := 24) h (by decide) dX10_membersOf_7 (fun hc h => ?_) (fun hc h => ?_)
      · refine r_iload_n C dX10_membersOf_24 rfl ?_
        exact r_iret C rfl (Nat.le_of_ble_eq_true rfl) dX10_membersOf_25 (re_i h)
      · refine r_iload_n C dX10_membersOf_10 rfl ?_
        refine r_iload_n C dX10_membersOf_11 rfl ?_
        refine r_iload_n C dX10_membersOf_12 rfl ?_
        refine r_ishr C dX10_membersOf_13 ?_
        refine r_iconst C ic_1 dX10_membersOf_14 ?_
        refine r_iand C dX10_membersOf_15 ?_
        refine r_iadd C dX10_membersOf_16 ?_
        refine r_istoreL_n C h (by decide) dX10_membersOf_17 (fun x3 h => ?_)
        refine r_iinc C ic_1 (by decide) dX10_membersOf_18 rfl ?_
        refine r_goto C (tgt := 4) (by decide) dX10_membersOf_21 ?_
        exact ih4 _ _ _ _ h
  refine r_iconst C ic_0 dX10_membersOf_0 ?_
  refine r_istore_n C (by decide) dX10_membersOf_1 ?_
  refine r_iconst C ic_0 dX10_membersOf_2 ?_
  refine r_istore_n C (by decide) dX10_membersOf_3 ?_
  exact L4 FU _ _ _ _ h
set_option maxHeartbeats 4000000 in
set_option maxRecDepth 100000 in
theorem mX10_pairsAlike {l : Launch} {D : va_G} {ad : Nat → Nat} {cy : Nat → ClassId} (hl : l.stackTraces = false) (hI : Inj ad) {q2 : Nat} (hq2 : isI 0 10 q2) {σ τ : Mem} {a1 : Int32} {r : Int32} (h : fX10_pairsAlike q2 σ a1 = some (r, τ)) : Co l D ad cy yX10_pairsAlike cX10_pairsAlike 5 (Option.some Jvm.ClassFile.FieldType.int) 2 121 0 [.ref (ad 124), .int a1, .ref (ad q2)] σ (zi r) τ := by
  refine co_of (av := [.inr 124, .inl a1, .inr q2]) hl hI (by decide +kernel) (Nat.le_of_ble_eq_true rfl) [some (.inr 124), some (.inl a1), some (.inr q2), none, none] rfl (fun V C => ?_)
  have C : Rl l D ad cy RX10 cX10_pairsAlike 5 (Option.some Jvm.ClassFile.FieldType.int) 2 121 0 (zi r) τ V := C
  have L26 : ∀ (n : Nat) (σ : Mem) (l1 l3 l4 : Int32), fX10_pairsAlike_L26 q2 n σ l1 l3 l4 = some (r, τ) → V 0 σ 26 [some (.inr 124), some (.inl l1), some (.inr q2), some (.inl l3), some (.inl l4)] [] := by
    intro n26
    induction n26 with
    | zero => intro σ l1 l3 l4 h; exact no_e h
    | succ n26 ih26 =>
      have L77 : ∀ (σ : Mem) (l1 l3 l4 : Int32), fX10_pairsAlike_L77 q2 (fX10_pairsAlike_L26 q2 n26)  σ l1 l3 l4 = some (r, τ) → V 0 σ 77 [some (.inr 124), some (.inl l1), some (.inr q2), some (.inl l3), some (.inl l4)] [] := by
        intro  σ l1 l3 l4 h
        refine r_iinc C ic_1 (by decide) dX10_pairsAlike_77 rfl ?_
        refine r_goto C (tgt := 26) (by decide) dX10_pairsAlike_80 ?_
        exact ih26 _ _ _ _ h
      intro σ l1 l3 l4 h
      have h : fX10_pairsAlike_B26 q2 (fX10_pairsAlike_L26 q2 n26) σ l1 l3 l4 = some (r, τ) := h
      refine r_iload C dX10_pairsAlike_26 rfl ?_
      refine r_aload_n C dX10_pairsAlike_28 rfl ?_
      refine r_getI C ck_10 f_124_7 (by decide) fl_X10_120 rfl dX10_pairsAlike_29 ?_
      refine r_ic_ge C (tgt := 83) h (by decide) dX10_pairsAlike_32 (fun hc h => ?_) (fun hc h => ?_)
      · refine r_iload_n C dX10_pairsAlike_83 rfl ?_
        exact r_iret C rfl (Nat.le_of_ble_eq_true rfl) dX10_pairsAlike_84 (re_i h)
      · refine r_aload_n C dX10_pairsAlike_35 rfl ?_
        refine r_getR C ck_10 f_124_4 (by decide) fl_X10_19 rfl dX10_pairsAlike_36 ?_
        refine r_iload_n C dX10_pairsAlike_39 rfl ?_
        obtain ⟨hi, h⟩ := ck_e h
        refine r_iald C i_128 hi dX10_pairsAlike_40 ?_
        refine r_iload C dX10_pairsAlike_41 rfl ?_
        refine bd_e h (fun v9 σ9 hf9 h => ?_)
        refine r_callSi C g_X10_has ml_X10_126 (mX10_has hl hI  hf9) rfl rfl (by exact Nat.le_of_ble_eq_true rfl) ⟨Nat.le_of_ble_eq_true rfl, Nat.le_of_ble_eq_true rfl, Nat.le_of_ble_eq_true rfl⟩ dX10_pairsAlike_43 ?_
        refine r_if_ne C (tgt := 52) h (by decide) dX10_pairsAlike_46 (fun hc h => ?_) (fun hc h => ?_)
        · refine r_iload_n C dX10_pairsAlike_52 rfl ?_
          refine r_aload_n C dX10_pairsAlike_53 rfl ?_
          refine r_getR C ck_10 f_124_9 (by decide) fl_X10_28 rfl dX10_pairsAlike_54 ?_
          refine r_aload_n C dX10_pairsAlike_57 rfl ?_
          refine r_iload C dX10_pairsAlike_58 rfl ?_
          obtain ⟨hi, h⟩ := ck_e h
          refine r_iald C hq2 hi dX10_pairsAlike_60 ?_
          obtain ⟨hi, h⟩ := ck_e h
          refine r_iald C i_131 hi dX10_pairsAlike_61 ?_
          refine r_iadd C dX10_pairsAlike_62 ?_
          refine r_istoreL_n C h (by decide) dX10_pairsAlike_63 (fun x10 h => ?_)
          refine r_aload_n C dX10_pairsAlike_64 rfl ?_
          refine r_getR C ck_10 f_124_9 (by decide) fl_X10_28 rfl dX10_pairsAlike_65 ?_
          refine r_aload_n C dX10_pairsAlike_68 rfl ?_
          refine r_iload C dX10_pairsAlike_69 rfl ?_
          obtain ⟨hi, h⟩ := ck_e h
          refine r_iald C hq2 hi dX10_pairsAlike_71 ?_
          refine r_dup2 C rfl rfl dX10_pairsAlike_72 ?_
          obtain ⟨hi, h⟩ := ck_e h
          refine r_iald C i_131 hi dX10_pairsAlike_73 ?_
          refine r_iconst C ic_1 dX10_pairsAlike_74 ?_
          refine r_iadd C dX10_pairsAlike_75 ?_
          obtain ⟨hi, h⟩ := ck_e h
          refine r_iast C i_131 hi dX10_pairsAlike_76 h (fun σ11 h => ?_)
          exact L77 _ _ _ _ h
        · refine r_goto C (tgt := 77) (by decide) dX10_pairsAlike_49 ?_
          exact L77 _ _ _ _ h
  have L2 : ∀ (n : Nat) (σ : Mem) (l1 l3 : Int32), fX10_pairsAlike_L2 q2 n σ l1 l3 = some (r, τ) → V 0 σ 2 [some (.inr 124), some (.inl l1), some (.inr q2), some (.inl l3), none] [] := by
    intro n2
    induction n2 with
    | zero => intro σ l1 l3 h; exact no_e h
    | succ n2 ih2 =>
      intro σ l1 l3 h
      have h : fX10_pairsAlike_B2 q2 (fX10_pairsAlike_L2 q2 n2) σ l1 l3 = some (r, τ) := h
      refine r_iload_n C dX10_pairsAlike_2 rfl ?_
      refine r_bipush C bp_8 dX10_pairsAlike_3 ?_
      refine r_ic_ge C (tgt := 21) h (by decide) dX10_pairsAlike_5 (fun hc h => ?_) (fun hc h => ?_)
      · refine r_iconst C ic_0 dX10_pairsAlike_21 ?_
        refine r_istore_n C (by decide) dX10_pairsAlike_22 ?_
        refine r_iconst C ic_0 dX10_pairsAlike_23 ?_
        refine r_istore C (by decide) dX10_pairsAlike_24 ?_
        exact L26 FU _ _ _ _ h
      · refine r_aload_n C dX10_pairsAlike_8 rfl ?_
        refine r_getR C ck_10 f_124_9 (by decide) fl_X10_28 rfl dX10_pairsAlike_9 ?_
        refine r_iload_n C dX10_pairsAlike_12 rfl ?_
        refine r_iconst C ic_0 dX10_pairsAlike_13 ?_
        obtain ⟨hi, h⟩ := ck_e h
        refine r_iast C i_131 hi dX10_pairsAlike_14 h (fun σ12 h => ?_)
        refine r_iinc C ic_1 (by decide) dX10_pairsAlike_15 rfl ?_
        refine r_goto C (tgt := 2) (by decide) dX10_pairsAlike_18 ?_
        exact ih2 _ _ _ h
  refine r_iconst C ic_0 dX10_pairsAlike_0 ?_
  refine r_istore_n C (by decide) dX10_pairsAlike_1 ?_
  exact L2 FU _ _ _ h
set_option maxHeartbeats 4000000 in
set_option maxRecDepth 100000 in
theorem mX10_pairsNear {l : Launch} {D : va_G} {ad : Nat → Nat} {cy : Nat → ClassId} (hl : l.stackTraces = false) (hI : Inj ad) {q2 : Nat} (hq2 : isI 0 10 q2) {σ τ : Mem} {a1 : Int32} {r : Int32} (h : fX10_pairsNear q2 σ a1 = some (r, τ)) : Co l D ad cy yX10_pairsNear cX10_pairsNear 7 (Option.some Jvm.ClassFile.FieldType.int) 2 121 0 [.ref (ad 124), .int a1, .ref (ad q2)] σ (zi r) τ := by
  refine co_of (av := [.inr 124, .inl a1, .inr q2]) hl hI (by decide +kernel) (Nat.le_of_ble_eq_true rfl) [some (.inr 124), some (.inl a1), some (.inr q2), none, none, none, none] rfl (fun V C => ?_)
  have C : Rl l D ad cy RX10 cX10_pairsNear 7 (Option.some Jvm.ClassFile.FieldType.int) 2 121 0 (zi r) τ V := C
  have L5 : ∀ (n : Nat) (σ : Mem) (l1 l3 l4 : Int32), fX10_pairsNear_L5 q2 n σ l1 l3 l4 = some (r, τ) → V 0 σ 5 [some (.inr 124), some (.inl l1), some (.inr q2), some (.inl l3), some (.inl l4), none, none] [] := by
    intro n5
    induction n5 with
    | zero => intro σ l1 l3 l4 h; exact no_e h
    | succ n5 ih5 =>
      have L111 : ∀ (σ : Mem) (l1 l3 l4 : Int32), fX10_pairsNear_L111 q2 (fX10_pairsNear_L5 q2 n5)  σ l1 l3 l4 = some (r, τ) → V 0 σ 111 [some (.inr 124), some (.inl l1), some (.inr q2), some (.inl l3), some (.inl l4), none, none] [] := by
        intro  σ l1 l3 l4 h
        refine r_iinc C ic_1 (by decide) dX10_pairsNear_111 rfl ?_
        refine r_goto C (tgt := 5) (by decide) dX10_pairsNear_114 ?_
        exact ih5 _ _ _ _ h
      have L17 : ∀ (n : Nat) (σ : Mem) (l1 l3 l4 l5 : Int32), fX10_pairsNear_L17 q2 (fX10_pairsNear_L5 q2 n5) n σ l1 l3 l4 l5 = some (r, τ) → V 0 σ 17 [some (.inr 124), some (.inl l1), some (.inr q2), some (.inl l3), some (.inl l4), some (.inl l5), none] [] := by
        intro n17
        induction n17 with
        | zero => intro σ l1 l3 l4 l5 h; exact no_e h
        | succ n17 ih17 =>
          have L103 : ∀ (σ : Mem) (l1 l4 l5 s0 s1 : Int32), fX10_pairsNear_L103 q2 (fX10_pairsNear_L5 q2 n5) (fX10_pairsNear_L17 q2 (fX10_pairsNear_L5 q2 n5) n17)  σ l1 l4 l5 s0 s1 = some (r, τ) → V 0 σ 103 [some (.inr 124), some (.inl l1), some (.inr q2), none, some (.inl l4), some (.inl l5), none] [.int s1, .int s0] := by
            intro  σ l1 l4 l5 s0 s1 h
            refine r_iadd C dX10_pairsNear_103 ?_
            refine r_istore_n C (by decide) dX10_pairsNear_104 ?_
            refine r_iinc C ic_1 (by decide) dX10_pairsNear_105 rfl ?_
            refine r_goto C (tgt := 17) (by decide) dX10_pairsNear_108 ?_
            exact ih17 _ _ _ _ _ h
          have L102 : ∀ (σ : Mem) (l1 l4 l5 s0 : Int32), fX10_pairsNear_L102 q2 (fX10_pairsNear_L5 q2 n5) (fX10_pairsNear_L17 q2 (fX10_pairsNear_L5 q2 n5) n17)  σ l1 l4 l5 s0 = some (r, τ) → V 0 σ 102 [some (.inr 124), some (.inl l1), some (.inr q2), none, some (.inl l4), some (.inl l5), none] [.int s0] := by
            intro  σ l1 l4 l5 s0 h
            refine r_iconst C ic_0 dX10_pairsNear_102 ?_
            exact L103 _ _ _ _ _ _ h
          have L70 : ∀ (σ : Mem) (l1 l3 l4 l5 s0 : Int32), fX10_pairsNear_L70 q2 (fX10_pairsNear_L5 q2 n5) (fX10_pairsNear_L17 q2 (fX10_pairsNear_L5 q2 n5) n17)  σ l1 l3 l4 l5 s0 = some (r, τ) → V 0 σ 70 [some (.inr 124), some (.inl l1), some (.inr q2), some (.inl l3), some (.inl l4), some (.inl l5), none] [.int s0] := by
            intro  σ l1 l3 l4 l5 s0 h
            refine r_istore C (by decide) dX10_pairsNear_70 ?_
            refine r_iload_n C dX10_pairsNear_72 rfl ?_
            refine r_aload_n C dX10_pairsNear_73 rfl ?_
            refine r_getR C ck_10 f_124_4 (by decide) fl_X10_19 rfl dX10_pairsNear_74 ?_
            refine r_iload_n C dX10_pairsNear_77 rfl ?_
            obtain ⟨hi, h⟩ := ck_e h
            refine r_iald C i_128 hi dX10_pairsNear_78 ?_
            refine r_iload C dX10_pairsNear_79 rfl ?_
            refine bd_e h (fun v5 σ5 hf5 h => ?_)
            refine r_callSi C g_X10_has ml_X10_126 (mX10_has hl hI  hf5) rfl rfl (by exact Nat.le_of_ble_eq_true rfl) ⟨Nat.le_of_ble_eq_true rfl, Nat.le_of_ble_eq_true rfl, Nat.le_of_ble_eq_true rfl⟩ dX10_pairsNear_81 ?_
            refine r_if_eq C (tgt := 102) h (by decide) dX10_pairsNear_84 (fun hc h => ?_) (fun hc h => ?_)
            · refine r_weak C [some (.inr 124), some (.inl l1), some (.inr q2), none, some (.inl l4), some (.inl l5), none] ⟨rfl, ⟨rfl, ⟨rfl, ⟨rfl, ⟨rfl, trivial⟩⟩⟩⟩⟩ ?_
              exact L102 _ _ _ _ _ h
            · refine r_iload C dX10_pairsNear_87 rfl ?_
              refine r_aload_n C dX10_pairsNear_89 rfl ?_
              refine r_getR C ck_10 f_124_5 (by decide) fl_X10_22 rfl dX10_pairsNear_90 ?_
              refine r_iload_n C dX10_pairsNear_93 rfl ?_
              obtain ⟨hi, h⟩ := ck_e h
              refine r_iald C i_129 hi dX10_pairsNear_94 ?_
              refine r_ic_ge C (tgt := 102) h (by decide) dX10_pairsNear_95 (fun hc h => ?_) (fun hc h => ?_)
              · refine r_weak C [some (.inr 124), some (.inl l1), some (.inr q2), none, some (.inl l4), some (.inl l5), none] ⟨rfl, ⟨rfl, ⟨rfl, ⟨rfl, ⟨rfl, trivial⟩⟩⟩⟩⟩ ?_
                exact L102 _ _ _ _ _ h
              · refine r_iconst C ic_1 dX10_pairsNear_98 ?_
                refine r_goto C (tgt := 103) (by decide) dX10_pairsNear_99 ?_
                refine r_weak C [some (.inr 124), some (.inl l1), some (.inr q2), none, some (.inl l4), some (.inl l5), none] ⟨rfl, ⟨rfl, ⟨rfl, ⟨rfl, ⟨rfl, trivial⟩⟩⟩⟩⟩ ?_
                exact L103 _ _ _ _ _ _ h
          intro σ l1 l3 l4 l5 h
          have h : fX10_pairsNear_B17 q2 (fX10_pairsNear_L5 q2 n5) (fX10_pairsNear_L17 q2 (fX10_pairsNear_L5 q2 n5) n17) σ l1 l3 l4 l5 = some (r, τ) := h
          refine r_iload C dX10_pairsNear_17 rfl ?_
          refine r_iload C dX10_pairsNear_19 rfl ?_
          refine r_ic_ge C (tgt := 111) h (by decide) dX10_pairsNear_21 (fun hc h => ?_) (fun hc h => ?_)
          · refine r_weak C [some (.inr 124), some (.inl l1), some (.inr q2), some (.inl l3), some (.inl l4), none, none] ⟨rfl, ⟨rfl, ⟨rfl, ⟨rfl, ⟨rfl, trivial⟩⟩⟩⟩⟩ ?_
            exact L111 _ _ _ _ h
          · refine r_aload_n C dX10_pairsNear_24 rfl ?_
            refine r_getR C ck_10 f_124_4 (by decide) fl_X10_19 rfl dX10_pairsNear_25 ?_
            refine r_iload_n C dX10_pairsNear_28 rfl ?_
            obtain ⟨hi, h⟩ := ck_e h
            refine r_iald C i_128 hi dX10_pairsNear_29 ?_
            refine r_iload C dX10_pairsNear_30 rfl ?_
            refine bd_e h (fun v6 σ6 hf6 h => ?_)
            refine r_callSi C g_X10_has ml_X10_126 (mX10_has hl hI  hf6) rfl rfl (by exact Nat.le_of_ble_eq_true rfl) ⟨Nat.le_of_ble_eq_true rfl, Nat.le_of_ble_eq_true rfl, Nat.le_of_ble_eq_true rfl⟩ dX10_pairsNear_32 ?_
            refine r_if_eq C (tgt := 111) h (by decide) dX10_pairsNear_35 (fun hc h => ?_) (fun hc h => ?_)
            · refine r_weak C [some (.inr 124), some (.inl l1), some (.inr q2), some (.inl l3), some (.inl l4), none, none] ⟨rfl, ⟨rfl, ⟨rfl, ⟨rfl, ⟨rfl, trivial⟩⟩⟩⟩⟩ ?_
              exact L111 _ _ _ _ h
            · refine r_aload_n C dX10_pairsNear_38 rfl ?_
              refine r_iload C dX10_pairsNear_39 rfl ?_
              obtain ⟨hi, h⟩ := ck_e h
              refine r_iald C hq2 hi dX10_pairsNear_41 ?_
              refine r_aload_n C dX10_pairsNear_42 rfl ?_
              refine r_iload C dX10_pairsNear_43 rfl ?_
              obtain ⟨hi, h⟩ := ck_e h
              refine r_iald C hq2 hi dX10_pairsNear_45 ?_
              refine r_ic_ge C (tgt := 61) h (by decide) dX10_pairsNear_46 (fun hc h => ?_) (fun hc h => ?_)
              · refine r_aload_n C dX10_pairsNear_61 rfl ?_
                refine r_iload C dX10_pairsNear_62 rfl ?_
                obtain ⟨hi, h⟩ := ck_e h
                refine r_iald C hq2 hi dX10_pairsNear_64 ?_
                refine r_aload_n C dX10_pairsNear_65 rfl ?_
                refine r_iload C dX10_pairsNear_66 rfl ?_
                obtain ⟨hi, h⟩ := ck_e h
                refine r_iald C hq2 hi dX10_pairsNear_68 ?_
                refine r_isub C dX10_pairsNear_69 ?_
                exact L70 _ _ _ _ _ _ h
              · refine r_aload_n C dX10_pairsNear_49 rfl ?_
                refine r_iload C dX10_pairsNear_50 rfl ?_
                obtain ⟨hi, h⟩ := ck_e h
                refine r_iald C hq2 hi dX10_pairsNear_52 ?_
                refine r_aload_n C dX10_pairsNear_53 rfl ?_
                refine r_iload C dX10_pairsNear_54 rfl ?_
                obtain ⟨hi, h⟩ := ck_e h
                refine r_iald C hq2 hi dX10_pairsNear_56 ?_
                refine r_isub C dX10_pairsNear_57 ?_
                refine r_goto C (tgt := 70) (by decide) dX10_pairsNear_58 ?_
                exact L70 _ _ _ _ _ _ h
      intro σ l1 l3 l4 h
      have h : fX10_pairsNear_B5 q2 (fX10_pairsNear_L5 q2 n5) σ l1 l3 l4 = some (r, τ) := h
      refine r_iload C dX10_pairsNear_5 rfl ?_
      refine r_aload_n C dX10_pairsNear_7 rfl ?_
      refine r_getI C ck_10 f_124_7 (by decide) fl_X10_120 rfl dX10_pairsNear_8 ?_
      refine r_ic_ge C (tgt := 117) h (by decide) dX10_pairsNear_11 (fun hc h => ?_) (fun hc h => ?_)
      · refine r_iload_n C dX10_pairsNear_117 rfl ?_
        exact r_iret C rfl (Nat.le_of_ble_eq_true rfl) dX10_pairsNear_118 (re_i h)
      · refine r_iconst C ic_0 dX10_pairsNear_14 ?_
        refine r_istore C (by decide) dX10_pairsNear_15 ?_
        exact L17 FU _ _ _ _ _ h
  refine r_iconst C ic_0 dX10_pairsNear_0 ?_
  refine r_istore_n C (by decide) dX10_pairsNear_1 ?_
  refine r_iconst C ic_0 dX10_pairsNear_2 ?_
  refine r_istore C (by decide) dX10_pairsNear_3 ?_
  exact L5 FU _ _ _ _ h
set_option maxHeartbeats 4000000 in
set_option maxRecDepth 100000 in
theorem mX10_notAscending {l : Launch} {D : va_G} {ad : Nat → Nat} {cy : Nat → ClassId} (hl : l.stackTraces = false) (hI : Inj ad) {q2 : Nat} (hq2 : isI 0 10 q2) {σ τ : Mem} {a1 : Int32} {r : Int32} (h : fX10_notAscending q2 σ a1 = some (r, τ)) : Co l D ad cy yX10_notAscending cX10_notAscending 6 (Option.some Jvm.ClassFile.FieldType.int) 2 121 0 [.ref (ad 124), .int a1, .ref (ad q2)] σ (zi r) τ := by
  refine co_of (av := [.inr 124, .inl a1, .inr q2]) hl hI (by decide +kernel) (Nat.le_of_ble_eq_true rfl) [some (.inr 124), some (.inl a1), some (.inr q2), none, none, none] rfl (fun V C => ?_)
  have C : Rl l D ad cy RX10 cX10_notAscending 6 (Option.some Jvm.ClassFile.FieldType.int) 2 121 0 (zi r) τ V := C
  have L8 : ∀ (n : Nat) (σ : Mem) (l1 l3 l4 l5 : Int32), fX10_notAscending_L8 q2 n σ l1 l3 l4 l5 = some (r, τ) → V 0 σ 8 [some (.inr 124), some (.inl l1), some (.inr q2), some (.inl l3), some (.inl l4), some (.inl l5)] [] := by
    intro n8
    induction n8 with
    | zero => intro σ l1 l3 l4 l5 h; exact no_e h
    | succ n8 ih8 =>
      have L69 : ∀ (σ : Mem) (l1 l3 l4 l5 : Int32), fX10_notAscending_L69 q2 (fX10_notAscending_L8 q2 n8)  σ l1 l3 l4 l5 = some (r, τ) → V 0 σ 69 [some (.inr 124), some (.inl l1), some (.inr q2), some (.inl l3), some (.inl l4), some (.inl l5)] [] := by
        intro  σ l1 l3 l4 l5 h
        refine r_iinc C ic_1 (by decide) dX10_notAscending_69 rfl ?_
        refine r_goto C (tgt := 8) (by decide) dX10_notAscending_72 ?_
        exact ih8 _ _ _ _ _ h
      have L63 : ∀ (σ : Mem) (l1 l5 s0 s1 : Int32), fX10_notAscending_L63 q2 (fX10_notAscending_L8 q2 n8)  σ l1 l5 s0 s1 = some (r, τ) → V 0 σ 63 [some (.inr 124), some (.inl l1), some (.inr q2), none, none, some (.inl l5)] [.int s1, .int s0] := by
        intro  σ l1 l5 s0 s1 h
        refine r_iadd C dX10_notAscending_63 ?_
        refine r_istore_n C (by decide) dX10_notAscending_64 ?_
        refine r_iload C dX10_notAscending_65 rfl ?_
        refine r_istore C (by decide) dX10_notAscending_67 ?_
        exact L69 _ _ _ _ _ h
      have L62 : ∀ (σ : Mem) (l1 l5 s0 : Int32), fX10_notAscending_L62 q2 (fX10_notAscending_L8 q2 n8)  σ l1 l5 s0 = some (r, τ) → V 0 σ 62 [some (.inr 124), some (.inl l1), some (.inr q2), none, none, some (.inl l5)] [.int s0] := by
        intro  σ l1 l5 s0 h
        refine r_iconst C ic_0 dX10_notAscending_62 ?_
        exact L63 _ _ _ _ _ h
      intro σ l1 l3 l4 l5 h
      have h : fX10_notAscending_B8 q2 (fX10_notAscending_L8 q2 n8) σ l1 l3 l4 l5 = some (r, τ) := h
      refine r_iload C dX10_notAscending_8 rfl ?_
      refine r_aload_n C dX10_notAscending_10 rfl ?_
      refine r_getI C ck_10 f_124_7 (by decide) fl_X10_120 rfl dX10_notAscending_11 ?_
      refine r_ic_ge C (tgt := 75) h (by decide) dX10_notAscending_14 (fun hc h => ?_) (fun hc h => ?_)
      · refine r_iload_n C dX10_notAscending_75 rfl ?_
        exact r_iret C rfl (Nat.le_of_ble_eq_true rfl) dX10_notAscending_76 (re_i h)
      · refine r_aload_n C dX10_notAscending_17 rfl ?_
        refine r_getR C ck_10 f_124_4 (by decide) fl_X10_19 rfl dX10_notAscending_18 ?_
        refine r_iload_n C dX10_notAscending_21 rfl ?_
        obtain ⟨hi, h⟩ := ck_e h
        refine r_iald C i_128 hi dX10_notAscending_22 ?_
        refine r_iload C dX10_notAscending_23 rfl ?_
        refine bd_e h (fun v3 σ3 hf3 h => ?_)
        refine r_callSi C g_X10_has ml_X10_126 (mX10_has hl hI  hf3) rfl rfl (by exact Nat.le_of_ble_eq_true rfl) ⟨Nat.le_of_ble_eq_true rfl, Nat.le_of_ble_eq_true rfl, Nat.le_of_ble_eq_true rfl⟩ dX10_notAscending_25 ?_
        refine r_if_ne C (tgt := 34) h (by decide) dX10_notAscending_28 (fun hc h => ?_) (fun hc h => ?_)
        · refine r_iload_n C dX10_notAscending_34 rfl ?_
          refine r_iload C dX10_notAscending_35 rfl ?_
          refine r_if_lt C (tgt := 62) h (by decide) dX10_notAscending_37 (fun hc h => ?_) (fun hc h => ?_)
          · refine r_weak C [some (.inr 124), some (.inl l1), some (.inr q2), none, none, some (.inl l5)] ⟨rfl, ⟨rfl, ⟨rfl, ⟨rfl, trivial⟩⟩⟩⟩ ?_
            exact L62 _ _ _ _ h
          · refine r_aload_n C dX10_notAscending_40 rfl ?_
            refine r_iload C dX10_notAscending_41 rfl ?_
            obtain ⟨hi, h⟩ := ck_e h
            refine r_iald C hq2 hi dX10_notAscending_43 ?_
            refine r_aload_n C dX10_notAscending_44 rfl ?_
            refine r_getR C ck_10 f_124_5 (by decide) fl_X10_22 rfl dX10_notAscending_45 ?_
            refine r_iload_n C dX10_notAscending_48 rfl ?_
            obtain ⟨hi, h⟩ := ck_e h
            refine r_iald C i_129 hi dX10_notAscending_49 ?_
            refine r_aload_n C dX10_notAscending_50 rfl ?_
            refine r_iload C dX10_notAscending_51 rfl ?_
            obtain ⟨hi, h⟩ := ck_e h
            refine r_iald C hq2 hi dX10_notAscending_53 ?_
            refine r_iadd C dX10_notAscending_54 ?_
            refine r_ic_ge C (tgt := 62) h (by decide) dX10_notAscending_55 (fun hc h => ?_) (fun hc h => ?_)
            · refine r_weak C [some (.inr 124), some (.inl l1), some (.inr q2), none, none, some (.inl l5)] ⟨rfl, ⟨rfl, ⟨rfl, ⟨rfl, trivial⟩⟩⟩⟩ ?_
              exact L62 _ _ _ _ h
            · refine r_iconst C ic_1 dX10_notAscending_58 ?_
              refine r_goto C (tgt := 63) (by decide) dX10_notAscending_59 ?_
              refine r_weak C [some (.inr 124), some (.inl l1), some (.inr q2), none, none, some (.inl l5)] ⟨rfl, ⟨rfl, ⟨rfl, ⟨rfl, trivial⟩⟩⟩⟩ ?_
              exact L63 _ _ _ _ _ h
        · refine r_goto C (tgt := 69) (by decide) dX10_notAscending_31 ?_
          exact L69 _ _ _ _ _ h
  refine r_iconst C ic_0 dX10_notAscending_0 ?_
  refine r_istore_n C (by decide) dX10_notAscending_1 ?_
  refine r_iconst C ic_m1 dX10_notAscending_2 ?_
  refine r_istore C (by decide) dX10_notAscending_3 ?_
  refine r_iconst C ic_0 dX10_notAscending_5 ?_
  refine r_istore C (by decide) dX10_notAscending_6 ?_
  exact L8 FU _ _ _ _ _ h
set_option maxHeartbeats 4000000 in
set_option maxRecDepth 100000 in
theorem mX10_sumOf {l : Launch} {D : va_G} {ad : Nat → Nat} {cy : Nat → ClassId} (hl : l.stackTraces = false) (hI : Inj ad) {q2 : Nat} (hq2 : isI 0 10 q2) {σ τ : Mem} {a1 a3 : Int32} {r : Int32} (h : fX10_sumOf q2 σ a1 a3 = some (r, τ)) : Co l D ad cy yX10_sumOf cX10_sumOf 6 (Option.some Jvm.ClassFile.FieldType.int) 2 121 0 [.ref (ad 124), .int a1, .ref (ad q2), .int a3] σ (zi r) τ := by
  refine co_of (av := [.inr 124, .inl a1, .inr q2, .inl a3]) hl hI (by decide +kernel) (Nat.le_of_ble_eq_true rfl) [some (.inr 124), some (.inl a1), some (.inr q2), some (.inl a3), none, none] rfl (fun V C => ?_)
  have C : Rl l D ad cy RX10 cX10_sumOf 6 (Option.some Jvm.ClassFile.FieldType.int) 2 121 0 (zi r) τ V := C
  have L6 : ∀ (n : Nat) (σ : Mem) (l1 l3 l4 l5 : Int32), fX10_sumOf_L6 q2 n σ l1 l3 l4 l5 = some (r, τ) → V 0 σ 6 [some (.inr 124), some (.inl l1), some (.inr q2), some (.inl l3), some (.inl l4), some (.inl l5)] [] := by
    intro n6
    induction n6 with
    | zero => intro σ l1 l3 l4 l5 h; exact no_e h
    | succ n6 ih6 =>
      have L58 : ∀ (σ : Mem) (l1 l3 l5 s0 s1 : Int32), fX10_sumOf_L58 q2 (fX10_sumOf_L6 q2 n6)  σ l1 l3 l5 s0 s1 = some (r, τ) → V 0 σ 58 [some (.inr 124), some (.inl l1), some (.inr q2), some (.inl l3), none, some (.inl l5)] [.int s1, .int s0] := by
        intro  σ l1 l3 l5 s0 s1 h
        refine r_iadd C dX10_sumOf_58 ?_
        refine r_istore C (by decide) dX10_sumOf_59 ?_
        refine r_iinc C ic_1 (by decide) dX10_sumOf_61 rfl ?_
        refine r_goto C (tgt := 6) (by decide) dX10_sumOf_64 ?_
        exact ih6 _ _ _ _ _ h
      intro σ l1 l3 l4 l5 h
      have h : fX10_sumOf_B6 q2 (fX10_sumOf_L6 q2 n6) σ l1 l3 l4 l5 = some (r, τ) := h
      refine r_iload C dX10_sumOf_6 rfl ?_
      refine r_aload_n C dX10_sumOf_8 rfl ?_
      refine r_getI C ck_10 f_124_7 (by decide) fl_X10_120 rfl dX10_sumOf_9 ?_
      refine r_ic_ge C (tgt := 67) h (by decide) dX10_sumOf_12 (fun hc h => ?_) (fun hc h => ?_)
      · refine r_iload C dX10_sumOf_67 rfl ?_
        exact r_iret C rfl (Nat.le_of_ble_eq_true rfl) dX10_sumOf_69 (re_i h)
      · refine r_iload C dX10_sumOf_15 rfl ?_
        refine r_aload_n C dX10_sumOf_17 rfl ?_
        refine r_getR C ck_10 f_124_4 (by decide) fl_X10_19 rfl dX10_sumOf_18 ?_
        refine r_iload_n C dX10_sumOf_21 rfl ?_
        obtain ⟨hi, h⟩ := ck_e h
        refine r_iald C i_128 hi dX10_sumOf_22 ?_
        refine r_iload C dX10_sumOf_23 rfl ?_
        refine bd_e h (fun v3 σ3 hf3 h => ?_)
        refine r_callSi C g_X10_has ml_X10_126 (mX10_has hl hI  hf3) rfl rfl (by exact Nat.le_of_ble_eq_true rfl) ⟨Nat.le_of_ble_eq_true rfl, Nat.le_of_ble_eq_true rfl, Nat.le_of_ble_eq_true rfl⟩ dX10_sumOf_25 ?_
        refine r_if_ne C (tgt := 35) h (by decide) dX10_sumOf_28 (fun hc h => ?_) (fun hc h => ?_)
        · refine r_iload_n C dX10_sumOf_35 rfl ?_
          refine r_if_eq C (tgt := 54) h (by decide) dX10_sumOf_36 (fun hc h => ?_) (fun hc h => ?_)
          · refine r_aload_n C dX10_sumOf_54 rfl ?_
            refine r_iload C dX10_sumOf_55 rfl ?_
            obtain ⟨hi, h⟩ := ck_e h
            refine r_iald C hq2 hi dX10_sumOf_57 ?_
            refine r_weak C [some (.inr 124), some (.inl l1), some (.inr q2), some (.inl l3), none, some (.inl l5)] ⟨rfl, ⟨rfl, ⟨rfl, ⟨rfl, ⟨rfl, trivial⟩⟩⟩⟩⟩ ?_
            exact L58 _ _ _ _ _ _ h
          · refine r_aload_n C dX10_sumOf_39 rfl ?_
            refine r_iload C dX10_sumOf_40 rfl ?_
            obtain ⟨hi, h⟩ := ck_e h
            refine r_iald C hq2 hi dX10_sumOf_42 ?_
            refine r_if_ne C (tgt := 50) h (by decide) dX10_sumOf_43 (fun hc h => ?_) (fun hc h => ?_)
            · refine r_iconst C ic_0 dX10_sumOf_50 ?_
              refine r_goto C (tgt := 58) (by decide) dX10_sumOf_51 ?_
              refine r_weak C [some (.inr 124), some (.inl l1), some (.inr q2), some (.inl l3), none, some (.inl l5)] ⟨rfl, ⟨rfl, ⟨rfl, ⟨rfl, ⟨rfl, trivial⟩⟩⟩⟩⟩ ?_
              exact L58 _ _ _ _ _ _ h
            · refine r_iconst C ic_1 dX10_sumOf_46 ?_
              refine r_goto C (tgt := 58) (by decide) dX10_sumOf_47 ?_
              refine r_weak C [some (.inr 124), some (.inl l1), some (.inr q2), some (.inl l3), none, some (.inl l5)] ⟨rfl, ⟨rfl, ⟨rfl, ⟨rfl, ⟨rfl, trivial⟩⟩⟩⟩⟩ ?_
              exact L58 _ _ _ _ _ _ h
        · refine r_iconst C ic_0 dX10_sumOf_31 ?_
          refine r_goto C (tgt := 58) (by decide) dX10_sumOf_32 ?_
          refine r_weak C [some (.inr 124), some (.inl l1), some (.inr q2), some (.inl l3), none, some (.inl l5)] ⟨rfl, ⟨rfl, ⟨rfl, ⟨rfl, ⟨rfl, trivial⟩⟩⟩⟩⟩ ?_
          exact L58 _ _ _ _ _ _ h
  refine r_iconst C ic_0 dX10_sumOf_0 ?_
  refine r_istore C (by decide) dX10_sumOf_1 ?_
  refine r_iconst C ic_0 dX10_sumOf_3 ?_
  refine r_istore C (by decide) dX10_sumOf_4 ?_
  exact L6 FU _ _ _ _ _ h
set_option maxHeartbeats 4000000 in
set_option maxRecDepth 100000 in
theorem mX10_violationOf {l : Launch} {D : va_G} {ad : Nat → Nat} {cy : Nat → ClassId} (hl : l.stackTraces = false) (hI : Inj ad) {q2 : Nat} (hq2 : isI 0 10 q2) {σ τ : Mem} {a1 : Int32} {r : Int32} (h : fX10_violationOf q2 σ a1 = some (r, τ)) : Co l D ad cy yX10_violationOf cX10_violationOf 4 (Option.some Jvm.ClassFile.FieldType.int) 3 147 0 [.ref (ad 124), .int a1, .ref (ad q2)] σ (zi r) τ := by
  refine co_of (av := [.inr 124, .inl a1, .inr q2]) hl hI (by decide +kernel) (Nat.le_of_ble_eq_true rfl) [some (.inr 124), some (.inl a1), some (.inr q2), none] rfl (fun V C => ?_)
  have C : Rl l D ad cy RX10 cX10_violationOf 4 (Option.some Jvm.ClassFile.FieldType.int) 3 147 0 (zi r) τ V := C
  refine r_aload_n C dX10_violationOf_0 rfl ?_
  refine r_getR C ck_10 f_124_3 (by decide) fl_X10_16 rfl dX10_violationOf_1 ?_
  refine r_iload_n C dX10_violationOf_4 rfl ?_
  obtain ⟨hi, h⟩ := ck_e h
  refine r_iald C i_127 hi dX10_violationOf_5 ?_
  refine sw_e h (fun he0 h => ?_) (fun he0 h => ?_)
  · refine r_tinE C 34 (tgt := 40) dX10_violationOf_6 he0 ⟨by decide, by decide⟩ (by decide) (by decide) ?_
    refine r_aload_n C dX10_violationOf_40 rfl ?_
    refine r_iload_n C dX10_violationOf_41 rfl ?_
    refine r_aload_n C dX10_violationOf_42 rfl ?_
    refine bd_e h (fun v19 σ19 hf19 h => ?_)
    refine r_callVi C g_X10_pairsAlike hc_10 o_124 ml_X10_130 (mX10_pairsAlike hl hI hq2 hf19) rfl rfl (by exact Nat.le_of_ble_eq_true rfl) ⟨Nat.le_of_ble_eq_true rfl, Nat.le_of_ble_eq_true rfl, Nat.le_of_ble_eq_true rfl⟩ dX10_violationOf_43 ?_
    exact r_iret C rfl (Nat.le_of_ble_eq_true rfl) dX10_violationOf_46 (re_i h)
  · refine sw_e h (fun he1 h => ?_) (fun he1 h => ?_)
    · refine r_tinE C 41 (tgt := 47) dX10_violationOf_6 he1 ⟨by decide, by decide⟩ (by decide) (by decide) ?_
      refine r_aload_n C dX10_violationOf_47 rfl ?_
      refine r_iload_n C dX10_violationOf_48 rfl ?_
      refine r_aload_n C dX10_violationOf_49 rfl ?_
      refine r_iconst C ic_0 dX10_violationOf_50 ?_
      refine bd_e h (fun v20 σ20 hf20 h => ?_)
      refine r_callVi C g_X10_sumOf hc_10 o_124 ml_X10_134 (mX10_sumOf hl hI hq2 hf20) rfl rfl (by exact Nat.le_of_ble_eq_true rfl) ⟨Nat.le_of_ble_eq_true rfl, Nat.le_of_ble_eq_true rfl, Nat.le_of_ble_eq_true rfl⟩ dX10_violationOf_51 ?_
      refine r_aload_n C dX10_violationOf_54 rfl ?_
      refine r_getR C ck_10 f_124_5 (by decide) fl_X10_22 rfl dX10_violationOf_55 ?_
      refine r_iload_n C dX10_violationOf_58 rfl ?_
      obtain ⟨hi, h⟩ := ck_e h
      refine r_iald C i_129 hi dX10_violationOf_59 ?_
      refine r_isub C dX10_violationOf_60 ?_
      refine r_istoreL_n C h (by decide) dX10_violationOf_61 (fun x21 h => ?_)
      refine r_iload_n C dX10_violationOf_62 rfl ?_
      refine r_if_ge C (tgt := 70) h (by decide) dX10_violationOf_63 (fun hc h => ?_) (fun hc h => ?_)
      · refine r_iload_n C dX10_violationOf_70 rfl ?_
        exact r_iret C rfl (Nat.le_of_ble_eq_true rfl) dX10_violationOf_71 (re_i h)
      · refine r_iconst C ic_0 dX10_violationOf_66 ?_
        refine r_goto C (tgt := 71) (by decide) dX10_violationOf_67 ?_
        exact r_iret C rfl (Nat.le_of_ble_eq_true rfl) dX10_violationOf_71 (re_i h)
    · refine sw_e h (fun he2 h => ?_) (fun he2 h => ?_)
      · refine r_tinE C 66 (tgt := 72) dX10_violationOf_6 he2 ⟨by decide, by decide⟩ (by decide) (by decide) ?_
        refine r_aload_n C dX10_violationOf_72 rfl ?_
        refine r_iload_n C dX10_violationOf_73 rfl ?_
        refine r_aload_n C dX10_violationOf_74 rfl ?_
        refine r_iconst C ic_0 dX10_violationOf_75 ?_
        refine bd_e h (fun v22 σ22 hf22 h => ?_)
        refine r_callVi C g_X10_sumOf hc_10 o_124 ml_X10_134 (mX10_sumOf hl hI hq2 hf22) rfl rfl (by exact Nat.le_of_ble_eq_true rfl) ⟨Nat.le_of_ble_eq_true rfl, Nat.le_of_ble_eq_true rfl, Nat.le_of_ble_eq_true rfl⟩ dX10_violationOf_76 ?_
        refine r_aload_n C dX10_violationOf_79 rfl ?_
        refine r_getR C ck_10 f_124_5 (by decide) fl_X10_22 rfl dX10_violationOf_80 ?_
        refine r_iload_n C dX10_violationOf_83 rfl ?_
        obtain ⟨hi, h⟩ := ck_e h
        refine r_iald C i_129 hi dX10_violationOf_84 ?_
        refine r_isub C dX10_violationOf_85 ?_
        refine r_istoreL_n C h (by decide) dX10_violationOf_86 (fun x23 h => ?_)
        refine r_iload_n C dX10_violationOf_87 rfl ?_
        refine r_if_ge C (tgt := 96) h (by decide) dX10_violationOf_88 (fun hc h => ?_) (fun hc h => ?_)
        · refine r_iload_n C dX10_violationOf_96 rfl ?_
          exact r_iret C rfl (Nat.le_of_ble_eq_true rfl) dX10_violationOf_97 (re_i h)
        · refine r_iload_n C dX10_violationOf_91 rfl ?_
          refine r_ineg C dX10_violationOf_92 ?_
          refine r_goto C (tgt := 97) (by decide) dX10_violationOf_93 ?_
          exact r_iret C rfl (Nat.le_of_ble_eq_true rfl) dX10_violationOf_97 (re_i h)
      · refine sw_e h (fun he3 h => ?_) (fun he3 h => ?_)
        · refine r_tinE C 92 (tgt := 98) dX10_violationOf_6 he3 ⟨by decide, by decide⟩ (by decide) (by decide) ?_
          refine r_aload_n C dX10_violationOf_98 rfl ?_
          refine r_iload_n C dX10_violationOf_99 rfl ?_
          refine r_aload_n C dX10_violationOf_100 rfl ?_
          refine bd_e h (fun v24 σ24 hf24 h => ?_)
          refine r_callVi C g_X10_notAscending hc_10 o_124 ml_X10_138 (mX10_notAscending hl hI hq2 hf24) rfl rfl (by exact Nat.le_of_ble_eq_true rfl) ⟨Nat.le_of_ble_eq_true rfl, Nat.le_of_ble_eq_true rfl, Nat.le_of_ble_eq_true rfl⟩ dX10_violationOf_101 ?_
          exact r_iret C rfl (Nat.le_of_ble_eq_true rfl) dX10_violationOf_104 (re_i h)
        · refine sw_e h (fun he4 h => ?_) (fun he4 h => ?_)
          · refine r_tinE C 99 (tgt := 105) dX10_violationOf_6 he4 ⟨by decide, by decide⟩ (by decide) (by decide) ?_
            refine r_aload_n C dX10_violationOf_105 rfl ?_
            refine r_iload_n C dX10_violationOf_106 rfl ?_
            refine r_aload_n C dX10_violationOf_107 rfl ?_
            refine r_iconst C ic_1 dX10_violationOf_108 ?_
            refine bd_e h (fun v25 σ25 hf25 h => ?_)
            refine r_callVi C g_X10_sumOf hc_10 o_124 ml_X10_134 (mX10_sumOf hl hI hq2 hf25) rfl rfl (by exact Nat.le_of_ble_eq_true rfl) ⟨Nat.le_of_ble_eq_true rfl, Nat.le_of_ble_eq_true rfl, Nat.le_of_ble_eq_true rfl⟩ dX10_violationOf_109 ?_
            refine r_aload_n C dX10_violationOf_112 rfl ?_
            refine r_getR C ck_10 f_124_5 (by decide) fl_X10_22 rfl dX10_violationOf_113 ?_
            refine r_iload_n C dX10_violationOf_116 rfl ?_
            obtain ⟨hi, h⟩ := ck_e h
            refine r_iald C i_129 hi dX10_violationOf_117 ?_
            refine r_isub C dX10_violationOf_118 ?_
            refine r_istoreL_n C h (by decide) dX10_violationOf_119 (fun x26 h => ?_)
            refine r_iload_n C dX10_violationOf_120 rfl ?_
            refine r_if_ge C (tgt := 129) h (by decide) dX10_violationOf_121 (fun hc h => ?_) (fun hc h => ?_)
            · refine r_iload_n C dX10_violationOf_129 rfl ?_
              exact r_iret C rfl (Nat.le_of_ble_eq_true rfl) dX10_violationOf_130 (re_i h)
            · refine r_iload_n C dX10_violationOf_124 rfl ?_
              refine r_ineg C dX10_violationOf_125 ?_
              refine r_goto C (tgt := 130) (by decide) dX10_violationOf_126 ?_
              exact r_iret C rfl (Nat.le_of_ble_eq_true rfl) dX10_violationOf_130 (re_i h)
          · refine r_tout C (tgt := 131) dX10_violationOf_6 (tout 4 (by decide) (fun j hj => match j, hj with | 0, _ => he0 | 1, _ => he1 | 2, _ => he2 | 3, _ => he3 | 4, _ => he4)) (by decide) ?_
            refine r_aload_n C dX10_violationOf_131 rfl ?_
            refine r_iload_n C dX10_violationOf_132 rfl ?_
            refine r_aload_n C dX10_violationOf_133 rfl ?_
            refine bd_e h (fun v27 σ27 hf27 h => ?_)
            refine r_callVi C g_X10_pairsNear hc_10 o_124 ml_X10_141 (mX10_pairsNear hl hI hq2 hf27) rfl rfl (by exact Nat.le_of_ble_eq_true rfl) ⟨Nat.le_of_ble_eq_true rfl, Nat.le_of_ble_eq_true rfl, Nat.le_of_ble_eq_true rfl⟩ dX10_violationOf_134 ?_
            exact r_iret C rfl (Nat.le_of_ble_eq_true rfl) dX10_violationOf_137 (re_i h)
set_option maxHeartbeats 4000000 in
set_option maxRecDepth 100000 in
theorem mX10_costOf {l : Launch} {D : va_G} {ad : Nat → Nat} {cy : Nat → ClassId} (hl : l.stackTraces = false) (hI : Inj ad) {q1 : Nat} (hq1 : isI 0 10 q1) {σ τ : Mem} {r : Int32} (h : fX10_costOf q1 σ = some (r, τ)) : Co l D ad cy yX10_costOf cX10_costOf 4 (Option.some Jvm.ClassFile.FieldType.int) 4 170 0 [.ref (ad 124), .ref (ad q1)] σ (zi r) τ := by
  refine co_of (av := [.inr 124, .inr q1]) hl hI (by decide +kernel) (Nat.le_of_ble_eq_true rfl) [some (.inr 124), some (.inr q1), none, none] rfl (fun V C => ?_)
  have C : Rl l D ad cy RX10 cX10_costOf 4 (Option.some Jvm.ClassFile.FieldType.int) 4 170 0 (zi r) τ V := C
  have L4 : ∀ (n : Nat) (σ : Mem) (l2 l3 : Int32), fX10_costOf_L4 q1 n σ l2 l3 = some (r, τ) → V 0 σ 4 [some (.inr 124), some (.inr q1), some (.inl l2), some (.inl l3)] [] := by
    intro n4
    induction n4 with
    | zero => intro σ l2 l3 h; exact no_e h
    | succ n4 ih4 =>
      intro σ l2 l3 h
      have h : fX10_costOf_B4 q1 (fX10_costOf_L4 q1 n4) σ l2 l3 = some (r, τ) := h
      refine r_iload_n C dX10_costOf_4 rfl ?_
      refine r_aload_n C dX10_costOf_5 rfl ?_
      refine r_getI C ck_10 f_124_8 (by decide) fl_X10_123 rfl dX10_costOf_6 ?_
      refine r_ic_ge C (tgt := 34) h (by decide) dX10_costOf_9 (fun hc h => ?_) (fun hc h => ?_)
      · refine r_iload_n C dX10_costOf_34 rfl ?_
        exact r_iret C rfl (Nat.le_of_ble_eq_true rfl) dX10_costOf_35 (re_i h)
      · refine r_iload_n C dX10_costOf_12 rfl ?_
        refine r_aload_n C dX10_costOf_13 rfl ?_
        refine r_getR C ck_10 f_124_6 (by decide) fl_X10_25 rfl dX10_costOf_14 ?_
        refine r_iload_n C dX10_costOf_17 rfl ?_
        obtain ⟨hi, h⟩ := ck_e h
        refine r_iald C i_130 hi dX10_costOf_18 ?_
        refine r_aload_n C dX10_costOf_19 rfl ?_
        refine r_iload_n C dX10_costOf_20 rfl ?_
        refine r_aload_n C dX10_costOf_21 rfl ?_
        refine bd_e h (fun v5 σ5 hf5 h => ?_)
        refine r_callVi C g_X10_violationOf hc_10 o_124 ml_X10_144 (mX10_violationOf hl hI hq1 hf5) rfl rfl (by exact Nat.le_of_ble_eq_true rfl) ⟨Nat.le_of_ble_eq_true rfl, Nat.le_of_ble_eq_true rfl, Nat.le_of_ble_eq_true rfl⟩ dX10_costOf_22 ?_
        refine r_imul C dX10_costOf_25 ?_
        refine r_iadd C dX10_costOf_26 ?_
        refine r_istoreL_n C h (by decide) dX10_costOf_27 (fun x6 h => ?_)
        refine r_iinc C ic_1 (by decide) dX10_costOf_28 rfl ?_
        refine r_goto C (tgt := 4) (by decide) dX10_costOf_31 ?_
        exact ih4 _ _ _ h
  refine r_iconst C ic_0 dX10_costOf_0 ?_
  refine r_istore_n C (by decide) dX10_costOf_1 ?_
  refine r_iconst C ic_0 dX10_costOf_2 ?_
  refine r_istore_n C (by decide) dX10_costOf_3 ?_
  exact L4 FU _ _ _ h
set_option maxHeartbeats 4000000 in
set_option maxRecDepth 100000 in
theorem mX10_conflictOf {l : Launch} {D : va_G} {ad : Nat → Nat} {cy : Nat → ClassId} (hl : l.stackTraces = false) (hI : Inj ad)   {σ τ : Mem} {a1 : Int32} {r : Int32} (h : fX10_conflictOf σ a1 = some (r, τ)) : Co l D ad cy yX10_conflictOf cX10_conflictOf 4 (Option.some Jvm.ClassFile.FieldType.int) 4 170 0 [.ref (ad 124), .int a1] σ (zi r) τ := by
  refine co_of (av := [.inr 124, .inl a1]) hl hI (by decide +kernel) (Nat.le_of_ble_eq_true rfl) [some (.inr 124), some (.inl a1), none, none] rfl (fun V C => ?_)
  have C : Rl l D ad cy RX10 cX10_conflictOf 4 (Option.some Jvm.ClassFile.FieldType.int) 4 170 0 (zi r) τ V := C
  have L4 : ∀ (n : Nat) (σ : Mem) (l1 l2 l3 : Int32), fX10_conflictOf_L4  n σ l1 l2 l3 = some (r, τ) → V 0 σ 4 [some (.inr 124), some (.inl l1), some (.inl l2), some (.inl l3)] [] := by
    intro n4
    induction n4 with
    | zero => intro σ l1 l2 l3 h; exact no_e h
    | succ n4 ih4 =>
      have L46 : ∀ (σ : Mem) (l1 l3 s0 s1 : Int32), fX10_conflictOf_L46 (fX10_conflictOf_L4  n4)  σ l1 l3 s0 s1 = some (r, τ) → V 0 σ 46 [some (.inr 124), some (.inl l1), none, some (.inl l3)] [.int s1, .int s0] := by
        intro  σ l1 l3 s0 s1 h
        refine r_iadd C dX10_conflictOf_46 ?_
        refine r_istore_n C (by decide) dX10_conflictOf_47 ?_
        refine r_iinc C ic_1 (by decide) dX10_conflictOf_48 rfl ?_
        refine r_goto C (tgt := 4) (by decide) dX10_conflictOf_51 ?_
        exact ih4 _ _ _ _ h
      intro σ l1 l2 l3 h
      have h : fX10_conflictOf_B4  (fX10_conflictOf_L4  n4) σ l1 l2 l3 = some (r, τ) := h
      refine r_iload_n C dX10_conflictOf_4 rfl ?_
      refine r_aload_n C dX10_conflictOf_5 rfl ?_
      refine r_getI C ck_10 f_124_8 (by decide) fl_X10_123 rfl dX10_conflictOf_6 ?_
      refine r_ic_ge C (tgt := 54) h (by decide) dX10_conflictOf_9 (fun hc h => ?_) (fun hc h => ?_)
      · refine r_iload_n C dX10_conflictOf_54 rfl ?_
        exact r_iret C rfl (Nat.le_of_ble_eq_true rfl) dX10_conflictOf_55 (re_i h)
      · refine r_iload_n C dX10_conflictOf_12 rfl ?_
        refine r_aload_n C dX10_conflictOf_13 rfl ?_
        refine r_getR C ck_10 f_124_4 (by decide) fl_X10_19 rfl dX10_conflictOf_14 ?_
        refine r_iload_n C dX10_conflictOf_17 rfl ?_
        obtain ⟨hi, h⟩ := ck_e h
        refine r_iald C i_128 hi dX10_conflictOf_18 ?_
        refine r_iload_n C dX10_conflictOf_19 rfl ?_
        refine bd_e h (fun v5 σ5 hf5 h => ?_)
        refine r_callSi C g_X10_has ml_X10_126 (mX10_has hl hI  hf5) rfl rfl (by exact Nat.le_of_ble_eq_true rfl) ⟨Nat.le_of_ble_eq_true rfl, Nat.le_of_ble_eq_true rfl, Nat.le_of_ble_eq_true rfl⟩ dX10_conflictOf_20 ?_
        refine r_if_eq C (tgt := 45) h (by decide) dX10_conflictOf_23 (fun hc h => ?_) (fun hc h => ?_)
        · refine r_iconst C ic_0 dX10_conflictOf_45 ?_
          refine r_weak C [some (.inr 124), some (.inl l1), none, some (.inl l3)] ⟨rfl, ⟨rfl, ⟨rfl, trivial⟩⟩⟩ ?_
          exact L46 _ _ _ _ _ h
        · refine r_aload_n C dX10_conflictOf_26 rfl ?_
          refine r_getR C ck_10 f_124_6 (by decide) fl_X10_25 rfl dX10_conflictOf_27 ?_
          refine r_iload_n C dX10_conflictOf_30 rfl ?_
          obtain ⟨hi, h⟩ := ck_e h
          refine r_iald C i_130 hi dX10_conflictOf_31 ?_
          refine r_aload_n C dX10_conflictOf_32 rfl ?_
          refine r_iload_n C dX10_conflictOf_33 rfl ?_
          refine r_aload_n C dX10_conflictOf_34 rfl ?_
          refine r_getR C ck_10 f_124_2 (by decide) fl_X10_13 rfl dX10_conflictOf_35 ?_
          refine bd_e h (fun v6 σ6 hf6 h => ?_)
          refine r_callVi C g_X10_violationOf hc_10 o_124 ml_X10_144 (mX10_violationOf hl hI i_126 hf6) rfl rfl (by exact Nat.le_of_ble_eq_true rfl) ⟨Nat.le_of_ble_eq_true rfl, Nat.le_of_ble_eq_true rfl, Nat.le_of_ble_eq_true rfl⟩ dX10_conflictOf_38 ?_
          refine r_imul C dX10_conflictOf_41 ?_
          refine r_goto C (tgt := 46) (by decide) dX10_conflictOf_42 ?_
          refine r_weak C [some (.inr 124), some (.inl l1), none, some (.inl l3)] ⟨rfl, ⟨rfl, ⟨rfl, trivial⟩⟩⟩ ?_
          exact L46 _ _ _ _ _ h
  refine r_iconst C ic_0 dX10_conflictOf_0 ?_
  refine r_istore_n C (by decide) dX10_conflictOf_1 ?_
  refine r_iconst C ic_0 dX10_conflictOf_2 ?_
  refine r_istore_n C (by decide) dX10_conflictOf_3 ?_
  exact L4 FU _ _ _ _ h
set_option maxHeartbeats 4000000 in
set_option maxRecDepth 100000 in
theorem mX10_allowsAll {l : Launch} {D : va_G} {ad : Nat → Nat} {cy : Nat → ClassId} (hl : l.stackTraces = false) (hI : Inj ad)   {σ τ : Mem} (h : fX10_allowsAll σ = some τ) : Co l D ad cy yX10_allowsAll cX10_allowsAll 2 (Option.none : Option Jvm.ClassFile.FieldType) 1 100 0 [.ref (ad 124)] σ (zv) τ := by
  refine co_of (av := [.inr 124]) hl hI (by decide +kernel) (Nat.le_of_ble_eq_true rfl) [some (.inr 124), none] rfl (fun V C => ?_)
  have C : Rl l D ad cy RX10 cX10_allowsAll 2 (Option.none : Option Jvm.ClassFile.FieldType) 1 100 0 (zv) τ V := C
  have L2 : ∀ (n : Nat) (σ : Mem) (l1 : Int32), fX10_allowsAll_L2  n σ l1 = some τ → V 0 σ 2 [some (.inr 124), some (.inl l1)] [] := by
    intro n2
    induction n2 with
    | zero => intro σ l1 h; exact no_e h
    | succ n2 ih2 =>
      intro σ l1 h
      have h : fX10_allowsAll_B2  (fX10_allowsAll_L2  n2) σ l1 = some τ := h
      refine r_iload_n C dX10_allowsAll_2 rfl ?_
      refine r_bipush C bp_80 dX10_allowsAll_3 ?_
      refine r_ic_ge C (tgt := 21) h (by decide) dX10_allowsAll_5 (fun hc h => ?_) (fun hc h => ?_)
      · exact r_vret C rfl (Nat.le_of_ble_eq_true rfl) dX10_allowsAll_21 (re_v h)
      · refine r_aload_n C dX10_allowsAll_8 rfl ?_
        refine r_getR C ck_10 f_124_11 (by decide) fl_X10_34 rfl dX10_allowsAll_9 ?_
        refine r_iload_n C dX10_allowsAll_12 rfl ?_
        refine r_iconst C ic_m1 dX10_allowsAll_13 ?_
        obtain ⟨hi, h⟩ := ck_e h
        refine r_iast C i_133 hi dX10_allowsAll_14 h (fun σ3 h => ?_)
        refine r_iinc C ic_1 (by decide) dX10_allowsAll_15 rfl ?_
        refine r_goto C (tgt := 2) (by decide) dX10_allowsAll_18 ?_
        exact ih2 _ _ h
  refine r_iconst C ic_0 dX10_allowsAll_0 ?_
  refine r_istore_n C (by decide) dX10_allowsAll_1 ?_
  exact L2 FU _ _ h
set_option maxHeartbeats 4000000 in
set_option maxRecDepth 100000 in
theorem mX10_keepsBest {l : Launch} {D : va_G} {ad : Nat → Nat} {cy : Nat → ClassId} (hl : l.stackTraces = false) (hI : Inj ad)   {σ τ : Mem} (h : fX10_keepsBest σ = some τ) : Co l D ad cy yX10_keepsBest cX10_keepsBest 2 (Option.none : Option Jvm.ClassFile.FieldType) 1 100 0 [.ref (ad 124)] σ (zv) τ := by
  refine co_of (av := [.inr 124]) hl hI (by decide +kernel) (Nat.le_of_ble_eq_true rfl) [some (.inr 124), none] rfl (fun V C => ?_)
  have C : Rl l D ad cy RX10 cX10_keepsBest 2 (Option.none : Option Jvm.ClassFile.FieldType) 1 100 0 (zv) τ V := C
  have L2 : ∀ (n : Nat) (σ : Mem) (l1 : Int32), fX10_keepsBest_L2  n σ l1 = some τ → V 0 σ 2 [some (.inr 124), some (.inl l1)] [] := by
    intro n2
    induction n2 with
    | zero => intro σ l1 h; exact no_e h
    | succ n2 ih2 =>
      intro σ l1 h
      have h : fX10_keepsBest_B2  (fX10_keepsBest_L2  n2) σ l1 = some τ := h
      refine r_iload_n C dX10_keepsBest_2 rfl ?_
      refine r_bipush C bp_10 dX10_keepsBest_3 ?_
      refine r_ic_ge C (tgt := 26) h (by decide) dX10_keepsBest_5 (fun hc h => ?_) (fun hc h => ?_)
      · refine r_aload_n C dX10_keepsBest_26 rfl ?_
        refine r_aload_n C dX10_keepsBest_27 rfl ?_
        refine r_getI C ck_10 f_124_13 (by decide) fl_X10_147 rfl dX10_keepsBest_28 ?_
        refine r_putI C ck_10 f_124_14 (by decide) fl_X10_150 rfl rfl rfl rfl rfl dX10_keepsBest_31 h (fun σ7 h => ?_)
        refine r_aload_n C dX10_keepsBest_34 rfl ?_
        refine r_aload_n C dX10_keepsBest_35 rfl ?_
        refine r_getI C ck_10 f_124_15 (by decide) fl_X10_153 rfl dX10_keepsBest_36 ?_
        refine r_putI C ck_10 f_124_18 (by decide) fl_X10_156 rfl rfl rfl rfl rfl dX10_keepsBest_39 h (fun σ8 h => ?_)
        exact r_vret C rfl (Nat.le_of_ble_eq_true rfl) dX10_keepsBest_42 (re_v h)
      · refine r_aload_n C dX10_keepsBest_8 rfl ?_
        refine r_getR C ck_10 f_124_10 (by decide) fl_X10_31 rfl dX10_keepsBest_9 ?_
        refine r_iload_n C dX10_keepsBest_12 rfl ?_
        refine r_aload_n C dX10_keepsBest_13 rfl ?_
        refine r_getR C ck_10 f_124_2 (by decide) fl_X10_13 rfl dX10_keepsBest_14 ?_
        refine r_iload_n C dX10_keepsBest_17 rfl ?_
        obtain ⟨hi, h⟩ := ck_e h
        refine r_iald C i_126 hi dX10_keepsBest_18 ?_
        obtain ⟨hi, h⟩ := ck_e h
        refine r_iast C i_132 hi dX10_keepsBest_19 h (fun σ9 h => ?_)
        refine r_iinc C ic_1 (by decide) dX10_keepsBest_20 rfl ?_
        refine r_goto C (tgt := 2) (by decide) dX10_keepsBest_23 ?_
        exact ih2 _ _ h
  refine r_iconst C ic_0 dX10_keepsBest_0 ?_
  refine r_istore_n C (by decide) dX10_keepsBest_1 ?_
  exact L2 FU _ _ h
set_option maxHeartbeats 4000000 in
set_option maxRecDepth 100000 in
theorem mX10_counts {l : Launch} {D : va_G} {ad : Nat → Nat} {cy : Nat → ClassId} (hl : l.stackTraces = false) (hI : Inj ad)   {σ τ : Mem} (h : fX10_counts σ = some τ) : Co l D ad cy yX10_counts cX10_counts 1 (Option.none : Option Jvm.ClassFile.FieldType) 5 193 0 [.ref (ad 124)] σ (zv) τ := by
  refine co_of (av := [.inr 124]) hl hI (by decide +kernel) (Nat.le_of_ble_eq_true rfl) [some (.inr 124)] rfl (fun V C => ?_)
  have C : Rl l D ad cy RX10 cX10_counts 1 (Option.none : Option Jvm.ClassFile.FieldType) 5 193 0 (zv) τ V := C
  refine r_aload_n C dX10_counts_0 rfl ?_
  refine r_aload_n C dX10_counts_1 rfl ?_
  refine r_aload_n C dX10_counts_2 rfl ?_
  refine r_getR C ck_10 f_124_2 (by decide) fl_X10_13 rfl dX10_counts_3 ?_
  refine bd_e h (fun v7 σ7 hf7 h => ?_)
  refine r_callVi C g_X10_costOf hc_10 o_124 ml_X10_159 (mX10_costOf hl hI i_126 hf7) rfl rfl (by exact Nat.le_of_ble_eq_true rfl) ⟨Nat.le_of_ble_eq_true rfl, Nat.le_of_ble_eq_true rfl, Nat.le_of_ble_eq_true rfl⟩ dX10_counts_6 ?_
  refine r_putI C ck_10 f_124_13 (by decide) fl_X10_147 rfl rfl rfl rfl rfl dX10_counts_9 h (fun σ8 h => ?_)
  refine r_aload_n C dX10_counts_12 rfl ?_
  refine r_getI C ck_10 f_124_13 (by decide) fl_X10_147 rfl dX10_counts_13 ?_
  refine r_aload_n C dX10_counts_16 rfl ?_
  refine r_getI C ck_10 f_124_14 (by decide) fl_X10_150 rfl dX10_counts_17 ?_
  refine r_ic_ge C (tgt := 27) h (by decide) dX10_counts_20 (fun hc h => ?_) (fun hc h => ?_)
  · exact r_vret C rfl (Nat.le_of_ble_eq_true rfl) dX10_counts_27 (re_v h)
  · refine r_aload_n C dX10_counts_23 rfl ?_
    refine bv_e h (fun σ9 hf9 h => ?_)
    refine r_callVv C g_X10_keepsBest hc_10 o_124 ml_X10_163 (mX10_keepsBest hl hI  hf9) rfl rfl (by exact Nat.le_of_ble_eq_true rfl) ⟨Nat.le_of_ble_eq_true rfl, Nat.le_of_ble_eq_true rfl, Nat.le_of_ble_eq_true rfl⟩ dX10_counts_24 ?_
    exact r_vret C rfl (Nat.le_of_ble_eq_true rfl) dX10_counts_27 (re_v h)
set_option maxHeartbeats 4000000 in
set_option maxRecDepth 100000 in
theorem mX10_begins {l : Launch} {D : va_G} {ad : Nat → Nat} {cy : Nat → ClassId} (hl : l.stackTraces = false) (hI : Inj ad)   {σ τ : Mem} (h : fX10_begins σ = some τ) : Co l D ad cy yX10_begins cX10_begins 1 (Option.none : Option Jvm.ClassFile.FieldType) 5 193 0 [.ref (ad 124)] σ (zv) τ := by
  refine co_of (av := [.inr 124]) hl hI (by decide +kernel) (Nat.le_of_ble_eq_true rfl) [some (.inr 124)] rfl (fun V C => ?_)
  have C : Rl l D ad cy RX10 cX10_begins 1 (Option.none : Option Jvm.ClassFile.FieldType) 5 193 0 (zv) τ V := C
  refine r_aload_n C dX10_begins_0 rfl ?_
  refine r_iconst C ic_0 dX10_begins_1 ?_
  refine r_putI C ck_10 f_124_15 (by decide) fl_X10_153 rfl rfl rfl rfl rfl dX10_begins_2 h (fun σ17 h => ?_)
  refine r_aload_n C dX10_begins_5 rfl ?_
  refine r_iconst C ic_0 dX10_begins_6 ?_
  refine r_putI C ck_10 f_124_16 (by decide) fl_X10_166 rfl rfl rfl rfl rfl dX10_begins_7 h (fun σ18 h => ?_)
  refine r_aload_n C dX10_begins_10 rfl ?_
  refine r_iconst C ic_0 dX10_begins_11 ?_
  refine r_putI C ck_10 f_124_17 (by decide) fl_X10_169 rfl rfl rfl rfl rfl dX10_begins_12 h (fun σ19 h => ?_)
  refine r_aload_n C dX10_begins_15 rfl ?_
  refine r_iconst C ic_0 dX10_begins_16 ?_
  refine r_putI C ck_10 f_124_19 (by decide) fl_X10_172 rfl rfl rfl rfl rfl dX10_begins_17 h (fun σ20 h => ?_)
  refine r_aload_n C dX10_begins_20 rfl ?_
  refine bv_e h (fun σ21 hf21 h => ?_)
  refine r_callVv C g_X10_allowsAll hc_10 o_124 ml_X10_175 (mX10_allowsAll hl hI  hf21) rfl rfl (by exact Nat.le_of_ble_eq_true rfl) ⟨Nat.le_of_ble_eq_true rfl, Nat.le_of_ble_eq_true rfl, Nat.le_of_ble_eq_true rfl⟩ dX10_begins_21 ?_
  refine r_aload_n C dX10_begins_24 rfl ?_
  refine r_aload_n C dX10_begins_25 rfl ?_
  refine r_aload_n C dX10_begins_26 rfl ?_
  refine r_getR C ck_10 f_124_2 (by decide) fl_X10_13 rfl dX10_begins_27 ?_
  refine bd_e h (fun v22 σ22 hf22 h => ?_)
  refine r_callVi C g_X10_costOf hc_10 o_124 ml_X10_159 (mX10_costOf hl hI i_126 hf22) rfl rfl (by exact Nat.le_of_ble_eq_true rfl) ⟨Nat.le_of_ble_eq_true rfl, Nat.le_of_ble_eq_true rfl, Nat.le_of_ble_eq_true rfl⟩ dX10_begins_30 ?_
  refine r_putI C ck_10 f_124_13 (by decide) fl_X10_147 rfl rfl rfl rfl rfl dX10_begins_33 h (fun σ23 h => ?_)
  refine r_aload_n C dX10_begins_36 rfl ?_
  refine bv_e h (fun σ24 hf24 h => ?_)
  refine r_callVv C g_X10_keepsBest hc_10 o_124 ml_X10_163 (mX10_keepsBest hl hI  hf24) rfl rfl (by exact Nat.le_of_ble_eq_true rfl) ⟨Nat.le_of_ble_eq_true rfl, Nat.le_of_ble_eq_true rfl, Nat.le_of_ble_eq_true rfl⟩ dX10_begins_37 ?_
  exact r_vret C rfl (Nat.le_of_ble_eq_true rfl) dX10_begins_40 (re_v h)
set_option maxHeartbeats 4000000 in
set_option maxRecDepth 100000 in
theorem mX10_hands {l : Launch} {D : va_G} {ad : Nat → Nat} {cy : Nat → ClassId} (hl : l.stackTraces = false) (hI : Inj ad) {q1 nn1 : Nat} {q2 nn2 : Nat} (hq1 : isI 0 nn1 q1) (hq2 : isI 0 nn2 q2) {σ τ : Mem} (h : fX10_hands q1 nn1 q2 nn2 σ = some τ) : Co l D ad cy yX10_hands cX10_hands 4 (Option.none : Option Jvm.ClassFile.FieldType) 1 100 0 [.ref (ad 124), .ref (ad q1), .ref (ad q2)] σ (zv) τ := by
  refine co_of (av := [.inr 124, .inr q1, .inr q2]) hl hI (by decide +kernel) (Nat.le_of_ble_eq_true rfl) [some (.inr 124), some (.inr q1), some (.inr q2), none] rfl (fun V C => ?_)
  have C : Rl l D ad cy RX10 cX10_hands 4 (Option.none : Option Jvm.ClassFile.FieldType) 1 100 0 (zv) τ V := C
  have L2 : ∀ (n : Nat) (σ : Mem) (l3 : Int32), fX10_hands_L2 q1 nn1 q2 nn2 n σ l3 = some τ → V 0 σ 2 [some (.inr 124), some (.inr q1), some (.inr q2), some (.inl l3)] [] := by
    intro n2
    induction n2 with
    | zero => intro σ l3 h; exact no_e h
    | succ n2 ih2 =>
      have L36 : ∀ (σ : Mem) (l3 : Int32), fX10_hands_L36 q1 nn1 q2 nn2 (fX10_hands_L2 q1 nn1 q2 nn2 n2)  σ l3 = some τ → V 0 σ 36 [some (.inr 124), some (.inr q1), some (.inr q2), some (.inl l3)] [] := by
        intro  σ l3 h
        refine r_aload_n C dX10_hands_36 rfl ?_
        refine r_dup C rfl dX10_hands_37 ?_
        refine r_getI C ck_10 f_124_29 (by decide) fl_X10_182 rfl dX10_hands_38 ?_
        refine r_iconst C ic_1 dX10_hands_41 ?_
        refine r_iadd C dX10_hands_42 ?_
        refine r_putI C ck_10 f_124_29 (by decide) fl_X10_182 rfl rfl rfl rfl rfl dX10_hands_43 h (fun σ7 h => ?_)
        refine r_iinc C ic_1 (by decide) dX10_hands_46 rfl ?_
        refine r_goto C (tgt := 2) (by decide) dX10_hands_49 ?_
        exact ih2 _ _ h
      intro σ l3 h
      have h : fX10_hands_B2 q1 nn1 q2 nn2 (fX10_hands_L2 q1 nn1 q2 nn2 n2) σ l3 = some τ := h
      refine r_iload_n C dX10_hands_2 rfl ?_
      refine r_aload_n C dX10_hands_3 rfl ?_
      refine r_alen C hq1 (by decide) rfl dX10_hands_4 ?_
      refine r_ic_ge C (tgt := 52) h (by decide) dX10_hands_5 (fun hc h => ?_) (fun hc h => ?_)
      · exact r_vret C rfl (Nat.le_of_ble_eq_true rfl) dX10_hands_52 (re_v h)
      · refine r_aload_n C dX10_hands_8 rfl ?_
        refine r_getI C ck_10 f_124_31 (by decide) fl_X10_178 rfl dX10_hands_9 ?_
        refine r_if_eq C (tgt := 27) h (by decide) dX10_hands_12 (fun hc h => ?_) (fun hc h => ?_)
        · refine r_aload_n C dX10_hands_27 rfl ?_
          refine r_iload_n C dX10_hands_28 rfl ?_
          refine r_aload_n C dX10_hands_29 rfl ?_
          refine r_aload_n C dX10_hands_30 rfl ?_
          refine r_getI C ck_10 f_124_29 (by decide) fl_X10_182 rfl dX10_hands_31 ?_
          obtain ⟨hi, h⟩ := ck_e h
          refine r_iald C hq2 hi dX10_hands_34 ?_
          obtain ⟨hi, h⟩ := ck_e h
          refine r_iast C hq1 hi dX10_hands_35 h (fun σ8 h => ?_)
          exact L36 _ _ h
        · refine r_aload_n C dX10_hands_15 rfl ?_
          refine r_aload_n C dX10_hands_16 rfl ?_
          refine r_getI C ck_10 f_124_29 (by decide) fl_X10_182 rfl dX10_hands_17 ?_
          refine r_aload_n C dX10_hands_20 rfl ?_
          refine r_iload_n C dX10_hands_21 rfl ?_
          obtain ⟨hi, h⟩ := ck_e h
          refine r_iald C hq1 hi dX10_hands_22 ?_
          obtain ⟨hi, h⟩ := ck_e h
          refine r_iast C hq2 hi dX10_hands_23 h (fun σ9 h => ?_)
          refine r_goto C (tgt := 36) (by decide) dX10_hands_24 ?_
          exact L36 _ _ h
  refine r_iconst C ic_0 dX10_hands_0 ?_
  refine r_istore_n C (by decide) dX10_hands_1 ?_
  exact L2 FU _ _ h
set_option maxHeartbeats 4000000 in
set_option maxRecDepth 100000 in
theorem mX10_handsAll {l : Launch} {D : va_G} {ad : Nat → Nat} {cy : Nat → ClassId} (hl : l.stackTraces = false) (hI : Inj ad) {q1 nn1 : Nat} (hq1 : isI 0 nn1 q1) {σ τ : Mem} {a2 a3 : Int32} (h : fX10_handsAll q1 nn1 σ a2 a3 = some τ) : Co l D ad cy yX10_handsAll cX10_handsAll 4 (Option.none : Option Jvm.ClassFile.FieldType) 2 123 0 [.ref (ad 124), .ref (ad q1), .int a2, .int a3] σ (zv) τ := by
  refine co_of (av := [.inr 124, .inr q1, .inl a2, .inl a3]) hl hI (by decide +kernel) (Nat.le_of_ble_eq_true rfl) [some (.inr 124), some (.inr q1), some (.inl a2), some (.inl a3)] rfl (fun V C => ?_)
  have C : Rl l D ad cy RX10 cX10_handsAll 4 (Option.none : Option Jvm.ClassFile.FieldType) 2 123 0 (zv) τ V := C
  refine r_aload_n C dX10_handsAll_0 rfl ?_
  refine r_iload_n C dX10_handsAll_1 rfl ?_
  obtain ⟨hz, h⟩ := ckz_e h
  refine r_putI C ck_10 f_124_31 (by decide) fl_X10_178 rfl rfl rfl (z_nar hz) (z_fit hz) dX10_handsAll_2 h (fun σ25 h => ?_)
  refine r_aload_n C dX10_handsAll_5 rfl ?_
  refine r_iload_n C dX10_handsAll_6 rfl ?_
  refine r_putI C ck_10 f_124_29 (by decide) fl_X10_182 rfl rfl rfl rfl rfl dX10_handsAll_7 h (fun σ26 h => ?_)
  refine r_aload_n C dX10_handsAll_10 rfl ?_
  refine r_aload_n C dX10_handsAll_11 rfl ?_
  refine r_getR C ck_10 f_124_1 (by decide) fl_X10_7 rfl dX10_handsAll_12 ?_
  refine r_aload_n C dX10_handsAll_15 rfl ?_
  refine bv_e h (fun σ27 hf27 h => ?_)
  refine r_callVv C g_X10_hands hc_10 o_124 ml_X10_185 (mX10_hands hl hI i_125 hq1 hf27) rfl rfl (by exact Nat.le_of_ble_eq_true rfl) ⟨Nat.le_of_ble_eq_true rfl, Nat.le_of_ble_eq_true rfl, Nat.le_of_ble_eq_true rfl⟩ dX10_handsAll_16 ?_
  refine r_aload_n C dX10_handsAll_19 rfl ?_
  refine r_aload_n C dX10_handsAll_20 rfl ?_
  refine r_getR C ck_10 f_124_2 (by decide) fl_X10_13 rfl dX10_handsAll_21 ?_
  refine r_aload_n C dX10_handsAll_24 rfl ?_
  refine bv_e h (fun σ28 hf28 h => ?_)
  refine r_callVv C g_X10_hands hc_10 o_124 ml_X10_185 (mX10_hands hl hI i_126 hq1 hf28) rfl rfl (by exact Nat.le_of_ble_eq_true rfl) ⟨Nat.le_of_ble_eq_true rfl, Nat.le_of_ble_eq_true rfl, Nat.le_of_ble_eq_true rfl⟩ dX10_handsAll_25 ?_
  refine r_aload_n C dX10_handsAll_28 rfl ?_
  refine r_aload_n C dX10_handsAll_29 rfl ?_
  refine r_getR C ck_10 f_124_3 (by decide) fl_X10_16 rfl dX10_handsAll_30 ?_
  refine r_aload_n C dX10_handsAll_33 rfl ?_
  refine bv_e h (fun σ29 hf29 h => ?_)
  refine r_callVv C g_X10_hands hc_10 o_124 ml_X10_185 (mX10_hands hl hI i_127 hq1 hf29) rfl rfl (by exact Nat.le_of_ble_eq_true rfl) ⟨Nat.le_of_ble_eq_true rfl, Nat.le_of_ble_eq_true rfl, Nat.le_of_ble_eq_true rfl⟩ dX10_handsAll_34 ?_
  refine r_aload_n C dX10_handsAll_37 rfl ?_
  refine r_aload_n C dX10_handsAll_38 rfl ?_
  refine r_getR C ck_10 f_124_4 (by decide) fl_X10_19 rfl dX10_handsAll_39 ?_
  refine r_aload_n C dX10_handsAll_42 rfl ?_
  refine bv_e h (fun σ30 hf30 h => ?_)
  refine r_callVv C g_X10_hands hc_10 o_124 ml_X10_185 (mX10_hands hl hI i_128 hq1 hf30) rfl rfl (by exact Nat.le_of_ble_eq_true rfl) ⟨Nat.le_of_ble_eq_true rfl, Nat.le_of_ble_eq_true rfl, Nat.le_of_ble_eq_true rfl⟩ dX10_handsAll_43 ?_
  refine r_aload_n C dX10_handsAll_46 rfl ?_
  refine r_aload_n C dX10_handsAll_47 rfl ?_
  refine r_getR C ck_10 f_124_5 (by decide) fl_X10_22 rfl dX10_handsAll_48 ?_
  refine r_aload_n C dX10_handsAll_51 rfl ?_
  refine bv_e h (fun σ31 hf31 h => ?_)
  refine r_callVv C g_X10_hands hc_10 o_124 ml_X10_185 (mX10_hands hl hI i_129 hq1 hf31) rfl rfl (by exact Nat.le_of_ble_eq_true rfl) ⟨Nat.le_of_ble_eq_true rfl, Nat.le_of_ble_eq_true rfl, Nat.le_of_ble_eq_true rfl⟩ dX10_handsAll_52 ?_
  refine r_aload_n C dX10_handsAll_55 rfl ?_
  refine r_aload_n C dX10_handsAll_56 rfl ?_
  refine r_getR C ck_10 f_124_6 (by decide) fl_X10_25 rfl dX10_handsAll_57 ?_
  refine r_aload_n C dX10_handsAll_60 rfl ?_
  refine bv_e h (fun σ32 hf32 h => ?_)
  refine r_callVv C g_X10_hands hc_10 o_124 ml_X10_185 (mX10_hands hl hI i_130 hq1 hf32) rfl rfl (by exact Nat.le_of_ble_eq_true rfl) ⟨Nat.le_of_ble_eq_true rfl, Nat.le_of_ble_eq_true rfl, Nat.le_of_ble_eq_true rfl⟩ dX10_handsAll_61 ?_
  refine r_iload_n C dX10_handsAll_64 rfl ?_
  refine r_if_eq C (tgt := 93) h (by decide) dX10_handsAll_65 (fun hc h => ?_) (fun hc h => ?_)
  · refine r_aload_n C dX10_handsAll_93 rfl ?_
    refine r_aload_n C dX10_handsAll_94 rfl ?_
    refine r_aload_n C dX10_handsAll_95 rfl ?_
    refine r_getI C ck_10 f_124_29 (by decide) fl_X10_182 rfl dX10_handsAll_96 ?_
    obtain ⟨hi, h⟩ := ck_e h
    refine r_iald C hq1 hi dX10_handsAll_99 ?_
    refine r_putI C ck_10 f_124_7 (by decide) fl_X10_120 rfl rfl rfl rfl rfl dX10_handsAll_100 h (fun σ33 h => ?_)
    refine r_aload_n C dX10_handsAll_103 rfl ?_
    refine r_aload_n C dX10_handsAll_104 rfl ?_
    refine r_aload_n C dX10_handsAll_105 rfl ?_
    refine r_getI C ck_10 f_124_29 (by decide) fl_X10_182 rfl dX10_handsAll_106 ?_
    refine r_iconst C ic_1 dX10_handsAll_109 ?_
    refine r_iadd C dX10_handsAll_110 ?_
    obtain ⟨hi, h⟩ := ck_e h
    refine r_iald C hq1 hi dX10_handsAll_111 ?_
    refine r_putI C ck_10 f_124_8 (by decide) fl_X10_123 rfl rfl rfl rfl rfl dX10_handsAll_112 h (fun σ34 h => ?_)
    exact r_vret C rfl (Nat.le_of_ble_eq_true rfl) dX10_handsAll_115 (re_v h)
  · refine r_aload_n C dX10_handsAll_68 rfl ?_
    refine r_aload_n C dX10_handsAll_69 rfl ?_
    refine r_getI C ck_10 f_124_29 (by decide) fl_X10_182 rfl dX10_handsAll_70 ?_
    refine r_aload_n C dX10_handsAll_73 rfl ?_
    refine r_getI C ck_10 f_124_7 (by decide) fl_X10_120 rfl dX10_handsAll_74 ?_
    obtain ⟨hi, h⟩ := ck_e h
    refine r_iast C hq1 hi dX10_handsAll_77 h (fun σ35 h => ?_)
    refine r_aload_n C dX10_handsAll_78 rfl ?_
    refine r_aload_n C dX10_handsAll_79 rfl ?_
    refine r_getI C ck_10 f_124_29 (by decide) fl_X10_182 rfl dX10_handsAll_80 ?_
    refine r_iconst C ic_1 dX10_handsAll_83 ?_
    refine r_iadd C dX10_handsAll_84 ?_
    refine r_aload_n C dX10_handsAll_85 rfl ?_
    refine r_getI C ck_10 f_124_8 (by decide) fl_X10_123 rfl dX10_handsAll_86 ?_
    obtain ⟨hi, h⟩ := ck_e h
    refine r_iast C hq1 hi dX10_handsAll_89 h (fun σ36 h => ?_)
    refine r_goto C (tgt := 115) (by decide) dX10_handsAll_90 ?_
    exact r_vret C rfl (Nat.le_of_ble_eq_true rfl) dX10_handsAll_115 (re_v h)
set_option maxHeartbeats 4000000 in
set_option maxRecDepth 100000 in
theorem mX10_remembers {l : Launch} {D : va_G} {ad : Nat → Nat} {cy : Nat → ClassId} (hl : l.stackTraces = false) (hI : Inj ad)   {σ τ : Mem} (h : fX10_remembers σ = some τ) : Co l D ad cy yX10_remembers cX10_remembers 2 (Option.none : Option Jvm.ClassFile.FieldType) 3 146 0 [.ref (ad 124)] σ (zv) τ := by
  refine co_of (av := [.inr 124]) hl hI (by decide +kernel) (Nat.le_of_ble_eq_true rfl) [some (.inr 124), none] rfl (fun V C => ?_)
  have C : Rl l D ad cy RX10 cX10_remembers 2 (Option.none : Option Jvm.ClassFile.FieldType) 3 146 0 (zv) τ V := C
  have L49 : ∀ (σ : Mem), fX10_remembers_L49   σ  = some τ → V 0 σ 49 [some (.inr 124), none] [] := by
    intro  σ  h
    refine r_aload_n C dX10_remembers_49 rfl ?_
    refine r_aload_n C dX10_remembers_50 rfl ?_
    refine r_getR C ck_10 f_124_24 (by decide) fl_X10_53 rfl dX10_remembers_51 ?_
    refine r_bipush C bp_104 dX10_remembers_54 ?_
    refine r_aload_n C dX10_remembers_56 rfl ?_
    refine r_getI C ck_10 f_124_28 (by decide) fl_X10_189 rfl dX10_remembers_57 ?_
    refine r_imul C dX10_remembers_60 ?_
    refine r_iconst C ic_1 dX10_remembers_61 ?_
    refine bv_e h (fun σ9 hf9 h => ?_)
    refine r_callVv C g_X10_handsAll hc_10 o_124 ml_X10_192 (mX10_handsAll hl hI i_135 hf9) rfl rfl (by exact Nat.le_of_ble_eq_true rfl) ⟨Nat.le_of_ble_eq_true rfl, Nat.le_of_ble_eq_true rfl, Nat.le_of_ble_eq_true rfl⟩ dX10_remembers_62 ?_
    refine r_aload_n C dX10_remembers_65 rfl ?_
    refine r_dup C rfl dX10_remembers_66 ?_
    refine r_getI C ck_10 f_124_28 (by decide) fl_X10_189 rfl dX10_remembers_67 ?_
    refine r_iconst C ic_1 dX10_remembers_70 ?_
    refine r_iadd C dX10_remembers_71 ?_
    refine r_putI C ck_10 f_124_28 (by decide) fl_X10_189 rfl rfl rfl rfl rfl dX10_remembers_72 h (fun σ10 h => ?_)
    exact r_vret C rfl (Nat.le_of_ble_eq_true rfl) dX10_remembers_75 (re_v h)
  have L11 : ∀ (n : Nat) (σ : Mem) (l1 : Int32), fX10_remembers_L11  n σ l1 = some τ → V 0 σ 11 [some (.inr 124), some (.inl l1)] [] := by
    intro n11
    induction n11 with
    | zero => intro σ l1 h; exact no_e h
    | succ n11 ih11 =>
      intro σ l1 h
      have h : fX10_remembers_B11  (fX10_remembers_L11  n11) σ l1 = some τ := h
      refine r_iload_n C dX10_remembers_11 rfl ?_
      refine r_sipush C sp_728 dX10_remembers_12 ?_
      refine r_ic_ge C (tgt := 39) h (by decide) dX10_remembers_15 (fun hc h => ?_) (fun hc h => ?_)
      · refine r_aload_n C dX10_remembers_39 rfl ?_
        refine r_dup C rfl dX10_remembers_40 ?_
        refine r_getI C ck_10 f_124_28 (by decide) fl_X10_189 rfl dX10_remembers_41 ?_
        refine r_iconst C ic_1 dX10_remembers_44 ?_
        refine r_isub C dX10_remembers_45 ?_
        refine r_putI C ck_10 f_124_28 (by decide) fl_X10_189 rfl rfl rfl rfl rfl dX10_remembers_46 h (fun σ11 h => ?_)
        refine r_weak C [some (.inr 124), none] ⟨rfl, trivial⟩ ?_
        exact L49 _ h
      · refine r_aload_n C dX10_remembers_18 rfl ?_
        refine r_getR C ck_10 f_124_24 (by decide) fl_X10_53 rfl dX10_remembers_19 ?_
        refine r_iload_n C dX10_remembers_22 rfl ?_
        refine r_aload_n C dX10_remembers_23 rfl ?_
        refine r_getR C ck_10 f_124_24 (by decide) fl_X10_53 rfl dX10_remembers_24 ?_
        refine r_iload_n C dX10_remembers_27 rfl ?_
        refine r_bipush C bp_104 dX10_remembers_28 ?_
        refine r_iadd C dX10_remembers_30 ?_
        obtain ⟨hi, h⟩ := ck_e h
        refine r_iald C i_135 hi dX10_remembers_31 ?_
        obtain ⟨hi, h⟩ := ck_e h
        refine r_iast C i_135 hi dX10_remembers_32 h (fun σ12 h => ?_)
        refine r_iinc C ic_1 (by decide) dX10_remembers_33 rfl ?_
        refine r_goto C (tgt := 11) (by decide) dX10_remembers_36 ?_
        exact ih11 _ _ h
  refine r_aload_n C dX10_remembers_0 rfl ?_
  refine r_getI C ck_10 f_124_28 (by decide) fl_X10_189 rfl dX10_remembers_1 ?_
  refine r_bipush C bp_8 dX10_remembers_4 ?_
  refine r_ic_ne C (tgt := 49) h (by decide) dX10_remembers_6 (fun hc h => ?_) (fun hc h => ?_)
  · exact L49 _ h
  · refine r_iconst C ic_0 dX10_remembers_9 ?_
    refine r_istore_n C (by decide) dX10_remembers_10 ?_
    exact L11 FU _ _ h
set_option maxHeartbeats 4000000 in
set_option maxRecDepth 100000 in
theorem mX10_clear {l : Launch} {D : va_G} {ad : Nat → Nat} {cy : Nat → ClassId} (hl : l.stackTraces = false) (hI : Inj ad)   {σ τ : Mem} {r : Int32} (h : fX10_clear σ = some (r, τ)) : Co l D ad cy yX10_clear cX10_clear 2 (Option.some Jvm.ClassFile.FieldType.int) 6 213 0 [.ref (ad 124)] σ (zi r) τ := by
  refine co_of (av := [.inr 124]) hl hI (by decide +kernel) (Nat.le_of_ble_eq_true rfl) [some (.inr 124), none] rfl (fun V C => ?_)
  have C : Rl l D ad cy RX10 cX10_clear 2 (Option.some Jvm.ClassFile.FieldType.int) 6 213 0 (zi r) τ V := C
  refine r_aload_n C dX10_clear_0 rfl ?_
  refine r_iconst C ic_0 dX10_clear_1 ?_
  refine r_putI C ck_10 f_124_0 (by decide) fl_X10_117 rfl rfl rfl rfl rfl dX10_clear_2 h (fun σ19 h => ?_)
  refine r_aload_n C dX10_clear_5 rfl ?_
  refine r_getI C ck_10 f_124_7 (by decide) fl_X10_120 rfl dX10_clear_6 ?_
  refine r_istore_n C (by decide) dX10_clear_9 ?_
  refine r_aload_n C dX10_clear_10 rfl ?_
  refine r_iconst C ic_0 dX10_clear_11 ?_
  refine r_putI C ck_10 f_124_7 (by decide) fl_X10_120 rfl rfl rfl rfl rfl dX10_clear_12 h (fun σ20 h => ?_)
  refine r_aload_n C dX10_clear_15 rfl ?_
  refine r_iconst C ic_0 dX10_clear_16 ?_
  refine r_putI C ck_10 f_124_8 (by decide) fl_X10_123 rfl rfl rfl rfl rfl dX10_clear_17 h (fun σ21 h => ?_)
  refine r_aload_n C dX10_clear_20 rfl ?_
  refine r_bipush C bp_15 dX10_clear_21 ?_
  refine r_putI C ck_10 f_124_20 (by decide) fl_X10_40 rfl rfl rfl rfl rfl dX10_clear_23 h (fun σ22 h => ?_)
  refine r_aload_n C dX10_clear_26 rfl ?_
  refine r_iconst C ic_3 dX10_clear_27 ?_
  refine r_putI C ck_10 f_124_21 (by decide) fl_X10_44 rfl rfl rfl rfl rfl dX10_clear_28 h (fun σ23 h => ?_)
  refine r_aload_n C dX10_clear_31 rfl ?_
  refine r_bipush C bp_20 dX10_clear_32 ?_
  refine r_putI C ck_10 f_124_22 (by decide) fl_X10_47 rfl rfl rfl rfl rfl dX10_clear_34 h (fun σ24 h => ?_)
  refine r_aload_n C dX10_clear_37 rfl ?_
  refine r_iconst C ic_1 dX10_clear_38 ?_
  refine r_putI C ck_10 f_124_23 (by decide) fl_X10_50 rfl rfl rfl rfl rfl dX10_clear_39 h (fun σ25 h => ?_)
  refine r_aload_n C dX10_clear_42 rfl ?_
  refine r_iconst C ic_0 dX10_clear_43 ?_
  refine r_putI C ck_10 f_124_28 (by decide) fl_X10_189 rfl rfl rfl rfl rfl dX10_clear_44 h (fun σ26 h => ?_)
  refine r_aload_n C dX10_clear_47 rfl ?_
  refine bv_e h (fun σ27 hf27 h => ?_)
  refine r_callVv C g_X10_begins hc_10 o_124 ml_X10_196 (mX10_begins hl hI  hf27) rfl rfl (by exact Nat.le_of_ble_eq_true rfl) ⟨Nat.le_of_ble_eq_true rfl, Nat.le_of_ble_eq_true rfl, Nat.le_of_ble_eq_true rfl⟩ dX10_clear_48 ?_
  refine r_iload_n C dX10_clear_51 rfl ?_
  exact r_iret C rfl (Nat.le_of_ble_eq_true rfl) dX10_clear_52 (re_i h)
set_option maxHeartbeats 4000000 in
set_option maxRecDepth 100000 in
theorem mX10_comesVariable {l : Launch} {D : va_G} {ad : Nat → Nat} {cy : Nat → ClassId} (hl : l.stackTraces = false) (hI : Inj ad)   {σ τ : Mem} {a1 : Int32} (h : fX10_comesVariable σ a1 = some τ) : Co l D ad cy yX10_comesVariable cX10_comesVariable 2 (Option.none : Option Jvm.ClassFile.FieldType) 1 100 0 [.ref (ad 124), .int a1] σ (zv) τ := by
  refine co_of (av := [.inr 124, .inl a1]) hl hI (by decide +kernel) (Nat.le_of_ble_eq_true rfl) [some (.inr 124), some (.inl a1)] rfl (fun V C => ?_)
  have C : Rl l D ad cy RX10 cX10_comesVariable 2 (Option.none : Option Jvm.ClassFile.FieldType) 1 100 0 (zv) τ V := C
  refine r_aload_n C dX10_comesVariable_0 rfl ?_
  refine r_getR C ck_10 f_124_1 (by decide) fl_X10_7 rfl dX10_comesVariable_1 ?_
  refine r_aload_n C dX10_comesVariable_4 rfl ?_
  refine r_getI C ck_10 f_124_7 (by decide) fl_X10_120 rfl dX10_comesVariable_5 ?_
  refine r_iload_n C dX10_comesVariable_8 rfl ?_
  obtain ⟨hi, h⟩ := ck_e h
  refine r_iast C i_125 hi dX10_comesVariable_9 h (fun σ7 h => ?_)
  refine r_aload_n C dX10_comesVariable_10 rfl ?_
  refine r_getR C ck_10 f_124_2 (by decide) fl_X10_13 rfl dX10_comesVariable_11 ?_
  refine r_aload_n C dX10_comesVariable_14 rfl ?_
  refine r_getI C ck_10 f_124_7 (by decide) fl_X10_120 rfl dX10_comesVariable_15 ?_
  refine r_iconst C ic_0 dX10_comesVariable_18 ?_
  obtain ⟨hi, h⟩ := ck_e h
  refine r_iast C i_126 hi dX10_comesVariable_19 h (fun σ8 h => ?_)
  refine r_aload_n C dX10_comesVariable_20 rfl ?_
  refine r_dup C rfl dX10_comesVariable_21 ?_
  refine r_getI C ck_10 f_124_7 (by decide) fl_X10_120 rfl dX10_comesVariable_22 ?_
  refine r_iconst C ic_1 dX10_comesVariable_25 ?_
  refine r_iadd C dX10_comesVariable_26 ?_
  refine r_putI C ck_10 f_124_7 (by decide) fl_X10_120 rfl rfl rfl rfl rfl dX10_comesVariable_27 h (fun σ9 h => ?_)
  exact r_vret C rfl (Nat.le_of_ble_eq_true rfl) dX10_comesVariable_30 (re_v h)
set_option maxHeartbeats 4000000 in
set_option maxRecDepth 100000 in
theorem mX10_addVariable {l : Launch} {D : va_G} {ad : Nat → Nat} {cy : Nat → ClassId} (hl : l.stackTraces = false) (hI : Inj ad)   {σ τ : Mem} {a1 : Int32} {r : Int32} (h : fX10_addVariable σ a1 = some (r, τ)) : Co l D ad cy yX10_addVariable cX10_addVariable 2 (Option.some Jvm.ClassFile.FieldType.int) 6 213 0 [.ref (ad 124), .int a1] σ (zi r) τ := by
  refine co_of (av := [.inr 124, .inl a1]) hl hI (by decide +kernel) (Nat.le_of_ble_eq_true rfl) [some (.inr 124), some (.inl a1)] rfl (fun V C => ?_)
  have C : Rl l D ad cy RX10 cX10_addVariable 2 (Option.some Jvm.ClassFile.FieldType.int) 6 213 0 (zi r) τ V := C
  refine r_iload_n C dX10_addVariable_0 rfl ?_
  refine r_iconst C ic_2 dX10_addVariable_1 ?_
  refine r_bipush C bp_8 dX10_addVariable_2 ?_
  refine bd_e h (fun v15 σ15 hf15 h => ?_)
  refine r_callSi C g_X10_isBetween ml_X10_199 (mX10_isBetween hl hI  hf15) rfl rfl (by exact Nat.le_of_ble_eq_true rfl) ⟨Nat.le_of_ble_eq_true rfl, Nat.le_of_ble_eq_true rfl, Nat.le_of_ble_eq_true rfl⟩ dX10_addVariable_4 ?_
  refine r_if_ne C (tgt := 16) h (by decide) dX10_addVariable_7 (fun hc h => ?_) (fun hc h => ?_)
  · refine r_aload_n C dX10_addVariable_16 rfl ?_
    refine r_getI C ck_10 f_124_7 (by decide) fl_X10_120 rfl dX10_addVariable_17 ?_
    refine r_bipush C bp_10 dX10_addVariable_20 ?_
    refine r_ic_ne C (tgt := 31) h (by decide) dX10_addVariable_22 (fun hc h => ?_) (fun hc h => ?_)
    · refine r_aload_n C dX10_addVariable_31 rfl ?_
      refine r_iconst C ic_0 dX10_addVariable_32 ?_
      refine r_putI C ck_10 f_124_0 (by decide) fl_X10_117 rfl rfl rfl rfl rfl dX10_addVariable_33 h (fun σ16 h => ?_)
      refine r_aload_n C dX10_addVariable_36 rfl ?_
      refine bv_e h (fun σ17 hf17 h => ?_)
      refine r_callVv C g_X10_remembers hc_10 o_124 ml_X10_207 (mX10_remembers hl hI  hf17) rfl rfl (by exact Nat.le_of_ble_eq_true rfl) ⟨Nat.le_of_ble_eq_true rfl, Nat.le_of_ble_eq_true rfl, Nat.le_of_ble_eq_true rfl⟩ dX10_addVariable_37 ?_
      refine r_aload_n C dX10_addVariable_40 rfl ?_
      refine r_iload_n C dX10_addVariable_41 rfl ?_
      refine bv_e h (fun σ18 hf18 h => ?_)
      refine r_callVv C g_X10_comesVariable hc_10 o_124 ml_X10_210 (mX10_comesVariable hl hI  hf18) rfl rfl (by exact Nat.le_of_ble_eq_true rfl) ⟨Nat.le_of_ble_eq_true rfl, Nat.le_of_ble_eq_true rfl, Nat.le_of_ble_eq_true rfl⟩ dX10_addVariable_42 ?_
      refine r_aload_n C dX10_addVariable_45 rfl ?_
      refine bv_e h (fun σ19 hf19 h => ?_)
      refine r_callVv C g_X10_begins hc_10 o_124 ml_X10_196 (mX10_begins hl hI  hf19) rfl rfl (by exact Nat.le_of_ble_eq_true rfl) ⟨Nat.le_of_ble_eq_true rfl, Nat.le_of_ble_eq_true rfl, Nat.le_of_ble_eq_true rfl⟩ dX10_addVariable_46 ?_
      refine r_aload_n C dX10_addVariable_49 rfl ?_
      refine r_getI C ck_10 f_124_7 (by decide) fl_X10_120 rfl dX10_addVariable_50 ?_
      refine r_iconst C ic_1 dX10_addVariable_53 ?_
      refine r_isub C dX10_addVariable_54 ?_
      exact r_iret C rfl (Nat.le_of_ble_eq_true rfl) dX10_addVariable_55 (re_i h)
    · refine r_aload_n C dX10_addVariable_25 rfl ?_
      refine r_iconst C ic_2 dX10_addVariable_26 ?_
      refine bd_e h (fun v20 σ20 hf20 h => ?_)
      refine r_callVi C g_X10_fails hc_10 o_124 ml_X10_203 (mX10_fails hl hI  hf20) rfl rfl (by exact Nat.le_of_ble_eq_true rfl) ⟨Nat.le_of_ble_eq_true rfl, Nat.le_of_ble_eq_true rfl, Nat.le_of_ble_eq_true rfl⟩ dX10_addVariable_27 ?_
      exact r_iret C rfl (Nat.le_of_ble_eq_true rfl) dX10_addVariable_30 (re_i h)
  · refine r_aload_n C dX10_addVariable_10 rfl ?_
    refine r_iconst C ic_1 dX10_addVariable_11 ?_
    refine bd_e h (fun v21 σ21 hf21 h => ?_)
    refine r_callVi C g_X10_fails hc_10 o_124 ml_X10_203 (mX10_fails hl hI  hf21) rfl rfl (by exact Nat.le_of_ble_eq_true rfl) ⟨Nat.le_of_ble_eq_true rfl, Nat.le_of_ble_eq_true rfl, Nat.le_of_ble_eq_true rfl⟩ dX10_addVariable_12 ?_
    exact r_iret C rfl (Nat.le_of_ble_eq_true rfl) dX10_addVariable_15 (re_i h)
set_option maxHeartbeats 4000000 in
set_option maxRecDepth 100000 in
theorem mX10_setDomain {l : Launch} {D : va_G} {ad : Nat → Nat} {cy : Nat → ClassId} (hl : l.stackTraces = false) (hI : Inj ad)   {σ τ : Mem} {a1 a2 : Int32} {r : Int32} (h : fX10_setDomain σ a1 a2 = some (r, τ)) : Co l D ad cy yX10_setDomain cX10_setDomain 4 (Option.some Jvm.ClassFile.FieldType.int) 6 213 0 [.ref (ad 124), .int a1, .int a2] σ (zi r) τ := by
  refine co_of (av := [.inr 124, .inl a1, .inl a2]) hl hI (by decide +kernel) (Nat.le_of_ble_eq_true rfl) [some (.inr 124), some (.inl a1), some (.inl a2), none] rfl (fun V C => ?_)
  have C : Rl l D ad cy RX10 cX10_setDomain 4 (Option.some Jvm.ClassFile.FieldType.int) 6 213 0 (zi r) τ V := C
  have L80 : ∀ (σ : Mem) (l3 s1 s2 : Int32), fX10_setDomain_L80   σ l3 s1 s2 = some (r, τ) → V 0 σ 80 [some (.inr 124), none, none, some (.inl l3)] [.int s2, .int s1, .ref (ad 126)] := by
    intro  σ l3 s1 s2 h
    obtain ⟨hi, h⟩ := ck_e h
    refine r_iast C i_126 hi dX10_setDomain_80 h (fun σ19 h => ?_)
    refine r_aload_n C dX10_setDomain_81 rfl ?_
    refine bv_e h (fun σ20 hf20 h => ?_)
    refine r_callVv C g_X10_begins hc_10 o_124 ml_X10_196 (mX10_begins hl hI  hf20) rfl rfl (by exact Nat.le_of_ble_eq_true rfl) ⟨Nat.le_of_ble_eq_true rfl, Nat.le_of_ble_eq_true rfl, Nat.le_of_ble_eq_true rfl⟩ dX10_setDomain_82 ?_
    refine r_iload_n C dX10_setDomain_85 rfl ?_
    exact r_iret C rfl (Nat.le_of_ble_eq_true rfl) dX10_setDomain_86 (re_i h)
  refine r_aload_n C dX10_setDomain_0 rfl ?_
  refine r_iload_n C dX10_setDomain_1 rfl ?_
  refine bd_e h (fun v21 σ21 hf21 h => ?_)
  refine r_callVi C g_X10_isVariable hc_10 o_124 ml_X10_214 (mX10_isVariable hl hI  hf21) rfl rfl (by exact Nat.le_of_ble_eq_true rfl) ⟨Nat.le_of_ble_eq_true rfl, Nat.le_of_ble_eq_true rfl, Nat.le_of_ble_eq_true rfl⟩ dX10_setDomain_2 ?_
  refine r_if_ne C (tgt := 14) h (by decide) dX10_setDomain_5 (fun hc h => ?_) (fun hc h => ?_)
  · refine r_iload_n C dX10_setDomain_14 rfl ?_
    refine r_iconst C ic_2 dX10_setDomain_15 ?_
    refine r_bipush C bp_8 dX10_setDomain_16 ?_
    refine bd_e h (fun v22 σ22 hf22 h => ?_)
    refine r_callSi C g_X10_isBetween ml_X10_199 (mX10_isBetween hl hI  hf22) rfl rfl (by exact Nat.le_of_ble_eq_true rfl) ⟨Nat.le_of_ble_eq_true rfl, Nat.le_of_ble_eq_true rfl, Nat.le_of_ble_eq_true rfl⟩ dX10_setDomain_18 ?_
    refine r_if_ne C (tgt := 30) h (by decide) dX10_setDomain_21 (fun hc h => ?_) (fun hc h => ?_)
    · refine r_aload_n C dX10_setDomain_30 rfl ?_
      refine r_iconst C ic_0 dX10_setDomain_31 ?_
      refine r_putI C ck_10 f_124_0 (by decide) fl_X10_117 rfl rfl rfl rfl rfl dX10_setDomain_32 h (fun σ23 h => ?_)
      refine r_aload_n C dX10_setDomain_35 rfl ?_
      refine bv_e h (fun σ24 hf24 h => ?_)
      refine r_callVv C g_X10_remembers hc_10 o_124 ml_X10_207 (mX10_remembers hl hI  hf24) rfl rfl (by exact Nat.le_of_ble_eq_true rfl) ⟨Nat.le_of_ble_eq_true rfl, Nat.le_of_ble_eq_true rfl, Nat.le_of_ble_eq_true rfl⟩ dX10_setDomain_36 ?_
      refine r_aload_n C dX10_setDomain_39 rfl ?_
      refine r_getR C ck_10 f_124_1 (by decide) fl_X10_7 rfl dX10_setDomain_40 ?_
      refine r_iload_n C dX10_setDomain_43 rfl ?_
      obtain ⟨hi, h⟩ := ck_e h
      refine r_iald C i_125 hi dX10_setDomain_44 ?_
      refine r_istore_n C (by decide) dX10_setDomain_45 ?_
      refine r_aload_n C dX10_setDomain_46 rfl ?_
      refine r_getR C ck_10 f_124_1 (by decide) fl_X10_7 rfl dX10_setDomain_47 ?_
      refine r_iload_n C dX10_setDomain_50 rfl ?_
      refine r_iload_n C dX10_setDomain_51 rfl ?_
      obtain ⟨hi, h⟩ := ck_e h
      refine r_iast C i_125 hi dX10_setDomain_52 h (fun σ25 h => ?_)
      refine r_aload_n C dX10_setDomain_53 rfl ?_
      refine r_getR C ck_10 f_124_2 (by decide) fl_X10_13 rfl dX10_setDomain_54 ?_
      refine r_iload_n C dX10_setDomain_57 rfl ?_
      refine r_aload_n C dX10_setDomain_58 rfl ?_
      refine r_getR C ck_10 f_124_2 (by decide) fl_X10_13 rfl dX10_setDomain_59 ?_
      refine r_iload_n C dX10_setDomain_62 rfl ?_
      obtain ⟨hi, h⟩ := ck_e h
      refine r_iald C i_126 hi dX10_setDomain_63 ?_
      refine r_iload_n C dX10_setDomain_64 rfl ?_
      refine r_ic_ge C (tgt := 77) h (by decide) dX10_setDomain_65 (fun hc h => ?_) (fun hc h => ?_)
      · refine r_iload_n C dX10_setDomain_77 rfl ?_
        refine r_iconst C ic_1 dX10_setDomain_78 ?_
        refine r_isub C dX10_setDomain_79 ?_
        refine r_weak C [some (.inr 124), none, none, some (.inl (σ24 125 a1.toNatClampNeg))] ⟨rfl, ⟨rfl, trivial⟩⟩ ?_
        exact L80 _ _ _ _ h
      · refine r_aload_n C dX10_setDomain_68 rfl ?_
        refine r_getR C ck_10 f_124_2 (by decide) fl_X10_13 rfl dX10_setDomain_69 ?_
        refine r_iload_n C dX10_setDomain_72 rfl ?_
        obtain ⟨hi, h⟩ := ck_e h
        refine r_iald C i_126 hi dX10_setDomain_73 ?_
        refine r_goto C (tgt := 80) (by decide) dX10_setDomain_74 ?_
        refine r_weak C [some (.inr 124), none, none, some (.inl (σ24 125 a1.toNatClampNeg))] ⟨rfl, ⟨rfl, trivial⟩⟩ ?_
        exact L80 _ _ _ _ h
    · refine r_aload_n C dX10_setDomain_24 rfl ?_
      refine r_iconst C ic_2 dX10_setDomain_25 ?_
      refine bd_e h (fun v26 σ26 hf26 h => ?_)
      refine r_callVi C g_X10_fails hc_10 o_124 ml_X10_203 (mX10_fails hl hI  hf26) rfl rfl (by exact Nat.le_of_ble_eq_true rfl) ⟨Nat.le_of_ble_eq_true rfl, Nat.le_of_ble_eq_true rfl, Nat.le_of_ble_eq_true rfl⟩ dX10_setDomain_26 ?_
      exact r_iret C rfl (Nat.le_of_ble_eq_true rfl) dX10_setDomain_29 (re_i h)
  · refine r_aload_n C dX10_setDomain_8 rfl ?_
    refine r_iconst C ic_1 dX10_setDomain_9 ?_
    refine bd_e h (fun v27 σ27 hf27 h => ?_)
    refine r_callVi C g_X10_fails hc_10 o_124 ml_X10_203 (mX10_fails hl hI  hf27) rfl rfl (by exact Nat.le_of_ble_eq_true rfl) ⟨Nat.le_of_ble_eq_true rfl, Nat.le_of_ble_eq_true rfl, Nat.le_of_ble_eq_true rfl⟩ dX10_setDomain_10 ?_
    exact r_iret C rfl (Nat.le_of_ble_eq_true rfl) dX10_setDomain_13 (re_i h)
set_option maxHeartbeats 4000000 in
set_option maxRecDepth 100000 in
theorem mX10_comesConstraint {l : Launch} {D : va_G} {ad : Nat → Nat} {cy : Nat → ClassId} (hl : l.stackTraces = false) (hI : Inj ad)   {σ τ : Mem} {a1 a2 a3 a4 : Int32} (h : fX10_comesConstraint σ a1 a2 a3 a4 = some τ) : Co l D ad cy yX10_comesConstraint cX10_comesConstraint 5 (Option.none : Option Jvm.ClassFile.FieldType) 1 100 0 [.ref (ad 124), .int a1, .int a2, .int a3, .int a4] σ (zv) τ := by
  refine co_of (av := [.inr 124, .inl a1, .inl a2, .inl a3, .inl a4]) hl hI (by decide +kernel) (Nat.le_of_ble_eq_true rfl) [some (.inr 124), some (.inl a1), some (.inl a2), some (.inl a3), some (.inl a4)] rfl (fun V C => ?_)
  have C : Rl l D ad cy RX10 cX10_comesConstraint 5 (Option.none : Option Jvm.ClassFile.FieldType) 1 100 0 (zv) τ V := C
  refine r_aload_n C dX10_comesConstraint_0 rfl ?_
  refine r_getR C ck_10 f_124_3 (by decide) fl_X10_16 rfl dX10_comesConstraint_1 ?_
  refine r_aload_n C dX10_comesConstraint_4 rfl ?_
  refine r_getI C ck_10 f_124_8 (by decide) fl_X10_123 rfl dX10_comesConstraint_5 ?_
  refine r_iload_n C dX10_comesConstraint_8 rfl ?_
  obtain ⟨hi, h⟩ := ck_e h
  refine r_iast C i_127 hi dX10_comesConstraint_9 h (fun σ11 h => ?_)
  refine r_aload_n C dX10_comesConstraint_10 rfl ?_
  refine r_getR C ck_10 f_124_4 (by decide) fl_X10_19 rfl dX10_comesConstraint_11 ?_
  refine r_aload_n C dX10_comesConstraint_14 rfl ?_
  refine r_getI C ck_10 f_124_8 (by decide) fl_X10_123 rfl dX10_comesConstraint_15 ?_
  refine r_iload_n C dX10_comesConstraint_18 rfl ?_
  obtain ⟨hi, h⟩ := ck_e h
  refine r_iast C i_128 hi dX10_comesConstraint_19 h (fun σ12 h => ?_)
  refine r_aload_n C dX10_comesConstraint_20 rfl ?_
  refine r_getR C ck_10 f_124_5 (by decide) fl_X10_22 rfl dX10_comesConstraint_21 ?_
  refine r_aload_n C dX10_comesConstraint_24 rfl ?_
  refine r_getI C ck_10 f_124_8 (by decide) fl_X10_123 rfl dX10_comesConstraint_25 ?_
  refine r_iload_n C dX10_comesConstraint_28 rfl ?_
  obtain ⟨hi, h⟩ := ck_e h
  refine r_iast C i_129 hi dX10_comesConstraint_29 h (fun σ13 h => ?_)
  refine r_aload_n C dX10_comesConstraint_30 rfl ?_
  refine r_getR C ck_10 f_124_6 (by decide) fl_X10_25 rfl dX10_comesConstraint_31 ?_
  refine r_aload_n C dX10_comesConstraint_34 rfl ?_
  refine r_getI C ck_10 f_124_8 (by decide) fl_X10_123 rfl dX10_comesConstraint_35 ?_
  refine r_iload C dX10_comesConstraint_38 rfl ?_
  obtain ⟨hi, h⟩ := ck_e h
  refine r_iast C i_130 hi dX10_comesConstraint_40 h (fun σ14 h => ?_)
  refine r_aload_n C dX10_comesConstraint_41 rfl ?_
  refine r_dup C rfl dX10_comesConstraint_42 ?_
  refine r_getI C ck_10 f_124_8 (by decide) fl_X10_123 rfl dX10_comesConstraint_43 ?_
  refine r_iconst C ic_1 dX10_comesConstraint_46 ?_
  refine r_iadd C dX10_comesConstraint_47 ?_
  refine r_putI C ck_10 f_124_8 (by decide) fl_X10_123 rfl rfl rfl rfl rfl dX10_comesConstraint_48 h (fun σ15 h => ?_)
  exact r_vret C rfl (Nat.le_of_ble_eq_true rfl) dX10_comesConstraint_51 (re_v h)
set_option maxHeartbeats 4000000 in
set_option maxRecDepth 100000 in
theorem mX10_doExist {l : Launch} {D : va_G} {ad : Nat → Nat} {cy : Nat → ClassId} (hl : l.stackTraces = false) (hI : Inj ad)   {σ τ : Mem} {a1 : Int32} {r : Int32} (h : fX10_doExist σ a1 = some (r, τ)) : Co l D ad cy yX10_doExist cX10_doExist 2 (Option.some Jvm.ClassFile.FieldType.boolean) 1 100 0 [.ref (ad 124), .int a1] σ (zi r) τ := by
  refine co_of (av := [.inr 124, .inl a1]) hl hI (by decide +kernel) (Nat.le_of_ble_eq_true rfl) [some (.inr 124), some (.inl a1)] rfl (fun V C => ?_)
  have C : Rl l D ad cy RX10 cX10_doExist 2 (Option.some Jvm.ClassFile.FieldType.boolean) 1 100 0 (zi r) τ V := C
  have L17 : ∀ (σ : Mem), fX10_doExist_L17   σ  = some (r, τ) → V 0 σ 17 [none, none] [] := by
    intro  σ  h
    refine r_iconst C ic_0 dX10_doExist_17 ?_
    exact r_zret C rfl (Nat.le_of_ble_eq_true rfl) (Or.inl rfl) dX10_doExist_18 (re_i h)
  refine r_iload_n C dX10_doExist_0 rfl ?_
  refine r_if_lt C (tgt := 17) h (by decide) dX10_doExist_1 (fun hc h => ?_) (fun hc h => ?_)
  · refine r_weak C [none, none] trivial ?_
    exact L17 _ h
  · refine r_iload_n C dX10_doExist_4 rfl ?_
    refine r_aload_n C dX10_doExist_5 rfl ?_
    refine r_getI C ck_10 f_124_7 (by decide) fl_X10_120 rfl dX10_doExist_6 ?_
    refine r_ishr C dX10_doExist_9 ?_
    refine r_if_ne C (tgt := 17) h (by decide) dX10_doExist_10 (fun hc h => ?_) (fun hc h => ?_)
    · refine r_weak C [none, none] trivial ?_
      exact L17 _ h
    · refine r_iconst C ic_1 dX10_doExist_13 ?_
      refine r_goto C (tgt := 18) (by decide) dX10_doExist_14 ?_
      exact r_zret C rfl (Nat.le_of_ble_eq_true rfl) (Or.inr rfl) dX10_doExist_18 (re_i h)
set_option maxHeartbeats 4000000 in
set_option maxRecDepth 100000 in
theorem mX10_addConstraint {l : Launch} {D : va_G} {ad : Nat → Nat} {cy : Nat → ClassId} (hl : l.stackTraces = false) (hI : Inj ad)   {σ τ : Mem} {a1 a2 a3 a4 : Int32} {r : Int32} (h : fX10_addConstraint σ a1 a2 a3 a4 = some (r, τ)) : Co l D ad cy yX10_addConstraint cX10_addConstraint 5 (Option.some Jvm.ClassFile.FieldType.int) 6 213 0 [.ref (ad 124), .int a1, .int a2, .int a3, .int a4] σ (zi r) τ := by
  refine co_of (av := [.inr 124, .inl a1, .inl a2, .inl a3, .inl a4]) hl hI (by decide +kernel) (Nat.le_of_ble_eq_true rfl) [some (.inr 124), some (.inl a1), some (.inl a2), some (.inl a3), some (.inl a4)] rfl (fun V C => ?_)
  have C : Rl l D ad cy RX10 cX10_addConstraint 5 (Option.some Jvm.ClassFile.FieldType.int) 6 213 0 (zi r) τ V := C
  have L47 : ∀ (σ : Mem), fX10_addConstraint_L47   σ  = some (r, τ) → V 0 σ 47 [some (.inr 124), none, none, none, none] [] := by
    intro  σ  h
    refine r_aload_n C dX10_addConstraint_47 rfl ?_
    refine r_iconst C ic_1 dX10_addConstraint_48 ?_
    refine bd_e h (fun v23 σ23 hf23 h => ?_)
    refine r_callVi C g_X10_fails hc_10 o_124 ml_X10_203 (mX10_fails hl hI  hf23) rfl rfl (by exact Nat.le_of_ble_eq_true rfl) ⟨Nat.le_of_ble_eq_true rfl, Nat.le_of_ble_eq_true rfl, Nat.le_of_ble_eq_true rfl⟩ dX10_addConstraint_49 ?_
    exact r_iret C rfl (Nat.le_of_ble_eq_true rfl) dX10_addConstraint_52 (re_i h)
  refine r_iload_n C dX10_addConstraint_0 rfl ?_
  refine r_iconst C ic_0 dX10_addConstraint_1 ?_
  refine r_iconst C ic_5 dX10_addConstraint_2 ?_
  refine bd_e h (fun v24 σ24 hf24 h => ?_)
  refine r_callSi C g_X10_isBetween ml_X10_199 (mX10_isBetween hl hI  hf24) rfl rfl (by exact Nat.le_of_ble_eq_true rfl) ⟨Nat.le_of_ble_eq_true rfl, Nat.le_of_ble_eq_true rfl, Nat.le_of_ble_eq_true rfl⟩ dX10_addConstraint_3 ?_
  refine r_if_eq C (tgt := 47) h (by decide) dX10_addConstraint_6 (fun hc h => ?_) (fun hc h => ?_)
  · refine r_weak C [some (.inr 124), none, none, none, none] ⟨rfl, trivial⟩ ?_
    exact L47 _ h
  · refine r_iload_n C dX10_addConstraint_9 rfl ?_
    refine r_bipush C bp_m50 dX10_addConstraint_10 ?_
    refine r_bipush C bp_50 dX10_addConstraint_12 ?_
    refine bd_e h (fun v25 σ25 hf25 h => ?_)
    refine r_callSi C g_X10_isBetween ml_X10_199 (mX10_isBetween hl hI  hf25) rfl rfl (by exact Nat.le_of_ble_eq_true rfl) ⟨Nat.le_of_ble_eq_true rfl, Nat.le_of_ble_eq_true rfl, Nat.le_of_ble_eq_true rfl⟩ dX10_addConstraint_14 ?_
    refine r_if_eq C (tgt := 47) h (by decide) dX10_addConstraint_17 (fun hc h => ?_) (fun hc h => ?_)
    · refine r_weak C [some (.inr 124), none, none, none, none] ⟨rfl, trivial⟩ ?_
      exact L47 _ h
    · refine r_iload C dX10_addConstraint_20 rfl ?_
      refine r_iconst C ic_1 dX10_addConstraint_22 ?_
      refine r_bipush C bp_9 dX10_addConstraint_23 ?_
      refine bd_e h (fun v26 σ26 hf26 h => ?_)
      refine r_callSi C g_X10_isBetween ml_X10_199 (mX10_isBetween hl hI  hf26) rfl rfl (by exact Nat.le_of_ble_eq_true rfl) ⟨Nat.le_of_ble_eq_true rfl, Nat.le_of_ble_eq_true rfl, Nat.le_of_ble_eq_true rfl⟩ dX10_addConstraint_25 ?_
      refine r_if_eq C (tgt := 47) h (by decide) dX10_addConstraint_28 (fun hc h => ?_) (fun hc h => ?_)
      · refine r_weak C [some (.inr 124), none, none, none, none] ⟨rfl, trivial⟩ ?_
        exact L47 _ h
      · refine r_aload_n C dX10_addConstraint_31 rfl ?_
        refine r_iload_n C dX10_addConstraint_32 rfl ?_
        refine bd_e h (fun v27 σ27 hf27 h => ?_)
        refine r_callVi C g_X10_doExist hc_10 o_124 ml_X10_218 (mX10_doExist hl hI  hf27) rfl rfl (by exact Nat.le_of_ble_eq_true rfl) ⟨Nat.le_of_ble_eq_true rfl, Nat.le_of_ble_eq_true rfl, Nat.le_of_ble_eq_true rfl⟩ dX10_addConstraint_33 ?_
        refine r_if_eq C (tgt := 47) h (by decide) dX10_addConstraint_36 (fun hc h => ?_) (fun hc h => ?_)
        · refine r_weak C [some (.inr 124), none, none, none, none] ⟨rfl, trivial⟩ ?_
          exact L47 _ h
        · refine r_iload_n C dX10_addConstraint_39 rfl ?_
          refine bd_e h (fun v28 σ28 hf28 h => ?_)
          refine r_callSi C g_X10_membersOf ml_X10_221 (mX10_membersOf hl hI  hf28) rfl rfl (by exact Nat.le_of_ble_eq_true rfl) ⟨Nat.le_of_ble_eq_true rfl, Nat.le_of_ble_eq_true rfl, Nat.le_of_ble_eq_true rfl⟩ dX10_addConstraint_40 ?_
          refine r_iconst C ic_2 dX10_addConstraint_43 ?_
          refine r_ic_ge C (tgt := 53) h (by decide) dX10_addConstraint_44 (fun hc h => ?_) (fun hc h => ?_)
          · refine r_aload_n C dX10_addConstraint_53 rfl ?_
            refine r_getI C ck_10 f_124_8 (by decide) fl_X10_123 rfl dX10_addConstraint_54 ?_
            refine r_bipush C bp_20 dX10_addConstraint_57 ?_
            refine r_ic_ne C (tgt := 68) h (by decide) dX10_addConstraint_59 (fun hc h => ?_) (fun hc h => ?_)
            · refine r_aload_n C dX10_addConstraint_68 rfl ?_
              refine r_iconst C ic_0 dX10_addConstraint_69 ?_
              refine r_putI C ck_10 f_124_0 (by decide) fl_X10_117 rfl rfl rfl rfl rfl dX10_addConstraint_70 h (fun σ29 h => ?_)
              refine r_aload_n C dX10_addConstraint_73 rfl ?_
              refine bv_e h (fun σ30 hf30 h => ?_)
              refine r_callVv C g_X10_remembers hc_10 o_124 ml_X10_207 (mX10_remembers hl hI  hf30) rfl rfl (by exact Nat.le_of_ble_eq_true rfl) ⟨Nat.le_of_ble_eq_true rfl, Nat.le_of_ble_eq_true rfl, Nat.le_of_ble_eq_true rfl⟩ dX10_addConstraint_74 ?_
              refine r_aload_n C dX10_addConstraint_77 rfl ?_
              refine r_iload_n C dX10_addConstraint_78 rfl ?_
              refine r_iload_n C dX10_addConstraint_79 rfl ?_
              refine r_iload_n C dX10_addConstraint_80 rfl ?_
              refine r_iload C dX10_addConstraint_81 rfl ?_
              refine bv_e h (fun σ31 hf31 h => ?_)
              refine r_callVv C g_X10_comesConstraint hc_10 o_124 ml_X10_224 (mX10_comesConstraint hl hI  hf31) rfl rfl (by exact Nat.le_of_ble_eq_true rfl) ⟨Nat.le_of_ble_eq_true rfl, Nat.le_of_ble_eq_true rfl, Nat.le_of_ble_eq_true rfl⟩ dX10_addConstraint_83 ?_
              refine r_aload_n C dX10_addConstraint_86 rfl ?_
              refine bv_e h (fun σ32 hf32 h => ?_)
              refine r_callVv C g_X10_begins hc_10 o_124 ml_X10_196 (mX10_begins hl hI  hf32) rfl rfl (by exact Nat.le_of_ble_eq_true rfl) ⟨Nat.le_of_ble_eq_true rfl, Nat.le_of_ble_eq_true rfl, Nat.le_of_ble_eq_true rfl⟩ dX10_addConstraint_87 ?_
              refine r_aload_n C dX10_addConstraint_90 rfl ?_
              refine r_getI C ck_10 f_124_8 (by decide) fl_X10_123 rfl dX10_addConstraint_91 ?_
              refine r_iconst C ic_1 dX10_addConstraint_94 ?_
              refine r_isub C dX10_addConstraint_95 ?_
              exact r_iret C rfl (Nat.le_of_ble_eq_true rfl) dX10_addConstraint_96 (re_i h)
            · refine r_aload_n C dX10_addConstraint_62 rfl ?_
              refine r_iconst C ic_2 dX10_addConstraint_63 ?_
              refine bd_e h (fun v33 σ33 hf33 h => ?_)
              refine r_callVi C g_X10_fails hc_10 o_124 ml_X10_203 (mX10_fails hl hI  hf33) rfl rfl (by exact Nat.le_of_ble_eq_true rfl) ⟨Nat.le_of_ble_eq_true rfl, Nat.le_of_ble_eq_true rfl, Nat.le_of_ble_eq_true rfl⟩ dX10_addConstraint_64 ?_
              exact r_iret C rfl (Nat.le_of_ble_eq_true rfl) dX10_addConstraint_67 (re_i h)
          · refine r_weak C [some (.inr 124), none, none, none, none] ⟨rfl, trivial⟩ ?_
            exact L47 _ h
set_option maxHeartbeats 4000000 in
set_option maxRecDepth 100000 in
theorem mX10_removeConstraint {l : Launch} {D : va_G} {ad : Nat → Nat} {cy : Nat → ClassId} (hl : l.stackTraces = false) (hI : Inj ad)   {σ τ : Mem} {a1 : Int32} {r : Int32} (h : fX10_removeConstraint σ a1 = some (r, τ)) : Co l D ad cy yX10_removeConstraint cX10_removeConstraint 3 (Option.some Jvm.ClassFile.FieldType.int) 6 213 0 [.ref (ad 124), .int a1] σ (zi r) τ := by
  refine co_of (av := [.inr 124, .inl a1]) hl hI (by decide +kernel) (Nat.le_of_ble_eq_true rfl) [some (.inr 124), some (.inl a1), none] rfl (fun V C => ?_)
  have C : Rl l D ad cy RX10 cX10_removeConstraint 3 (Option.some Jvm.ClassFile.FieldType.int) 6 213 0 (zi r) τ V := C
  have L35 : ∀ (n : Nat) (σ : Mem) (l2 : Int32), fX10_removeConstraint_L35  n σ l2 = some (r, τ) → V 0 σ 35 [some (.inr 124), none, some (.inl l2)] [] := by
    intro n35
    induction n35 with
    | zero => intro σ l2 h; exact no_e h
    | succ n35 ih35 =>
      intro σ l2 h
      have h : fX10_removeConstraint_B35  (fX10_removeConstraint_L35  n35) σ l2 = some (r, τ) := h
      refine r_iload_n C dX10_removeConstraint_35 rfl ?_
      refine r_aload_n C dX10_removeConstraint_36 rfl ?_
      refine r_getI C ck_10 f_124_8 (by decide) fl_X10_123 rfl dX10_removeConstraint_37 ?_
      refine r_ic_ge C (tgt := 105) h (by decide) dX10_removeConstraint_40 (fun hc h => ?_) (fun hc h => ?_)
      · refine r_aload_n C dX10_removeConstraint_105 rfl ?_
        refine bv_e h (fun σ21 hf21 h => ?_)
        refine r_callVv C g_X10_begins hc_10 o_124 ml_X10_196 (mX10_begins hl hI  hf21) rfl rfl (by exact Nat.le_of_ble_eq_true rfl) ⟨Nat.le_of_ble_eq_true rfl, Nat.le_of_ble_eq_true rfl, Nat.le_of_ble_eq_true rfl⟩ dX10_removeConstraint_106 ?_
        refine r_aload_n C dX10_removeConstraint_109 rfl ?_
        refine r_getI C ck_10 f_124_8 (by decide) fl_X10_123 rfl dX10_removeConstraint_110 ?_
        exact r_iret C rfl (Nat.le_of_ble_eq_true rfl) dX10_removeConstraint_113 (re_i h)
      · refine r_aload_n C dX10_removeConstraint_43 rfl ?_
        refine r_getR C ck_10 f_124_3 (by decide) fl_X10_16 rfl dX10_removeConstraint_44 ?_
        refine r_iload_n C dX10_removeConstraint_47 rfl ?_
        refine r_aload_n C dX10_removeConstraint_48 rfl ?_
        refine r_getR C ck_10 f_124_3 (by decide) fl_X10_16 rfl dX10_removeConstraint_49 ?_
        refine r_iload_n C dX10_removeConstraint_52 rfl ?_
        refine r_iconst C ic_1 dX10_removeConstraint_53 ?_
        refine r_iadd C dX10_removeConstraint_54 ?_
        obtain ⟨hi, h⟩ := ck_e h
        refine r_iald C i_127 hi dX10_removeConstraint_55 ?_
        obtain ⟨hi, h⟩ := ck_e h
        refine r_iast C i_127 hi dX10_removeConstraint_56 h (fun σ22 h => ?_)
        refine r_aload_n C dX10_removeConstraint_57 rfl ?_
        refine r_getR C ck_10 f_124_4 (by decide) fl_X10_19 rfl dX10_removeConstraint_58 ?_
        refine r_iload_n C dX10_removeConstraint_61 rfl ?_
        refine r_aload_n C dX10_removeConstraint_62 rfl ?_
        refine r_getR C ck_10 f_124_4 (by decide) fl_X10_19 rfl dX10_removeConstraint_63 ?_
        refine r_iload_n C dX10_removeConstraint_66 rfl ?_
        refine r_iconst C ic_1 dX10_removeConstraint_67 ?_
        refine r_iadd C dX10_removeConstraint_68 ?_
        obtain ⟨hi, h⟩ := ck_e h
        refine r_iald C i_128 hi dX10_removeConstraint_69 ?_
        obtain ⟨hi, h⟩ := ck_e h
        refine r_iast C i_128 hi dX10_removeConstraint_70 h (fun σ23 h => ?_)
        refine r_aload_n C dX10_removeConstraint_71 rfl ?_
        refine r_getR C ck_10 f_124_5 (by decide) fl_X10_22 rfl dX10_removeConstraint_72 ?_
        refine r_iload_n C dX10_removeConstraint_75 rfl ?_
        refine r_aload_n C dX10_removeConstraint_76 rfl ?_
        refine r_getR C ck_10 f_124_5 (by decide) fl_X10_22 rfl dX10_removeConstraint_77 ?_
        refine r_iload_n C dX10_removeConstraint_80 rfl ?_
        refine r_iconst C ic_1 dX10_removeConstraint_81 ?_
        refine r_iadd C dX10_removeConstraint_82 ?_
        obtain ⟨hi, h⟩ := ck_e h
        refine r_iald C i_129 hi dX10_removeConstraint_83 ?_
        obtain ⟨hi, h⟩ := ck_e h
        refine r_iast C i_129 hi dX10_removeConstraint_84 h (fun σ24 h => ?_)
        refine r_aload_n C dX10_removeConstraint_85 rfl ?_
        refine r_getR C ck_10 f_124_6 (by decide) fl_X10_25 rfl dX10_removeConstraint_86 ?_
        refine r_iload_n C dX10_removeConstraint_89 rfl ?_
        refine r_aload_n C dX10_removeConstraint_90 rfl ?_
        refine r_getR C ck_10 f_124_6 (by decide) fl_X10_25 rfl dX10_removeConstraint_91 ?_
        refine r_iload_n C dX10_removeConstraint_94 rfl ?_
        refine r_iconst C ic_1 dX10_removeConstraint_95 ?_
        refine r_iadd C dX10_removeConstraint_96 ?_
        obtain ⟨hi, h⟩ := ck_e h
        refine r_iald C i_130 hi dX10_removeConstraint_97 ?_
        obtain ⟨hi, h⟩ := ck_e h
        refine r_iast C i_130 hi dX10_removeConstraint_98 h (fun σ25 h => ?_)
        refine r_iinc C ic_1 (by decide) dX10_removeConstraint_99 rfl ?_
        refine r_goto C (tgt := 35) (by decide) dX10_removeConstraint_102 ?_
        exact ih35 _ _ h
  refine r_aload_n C dX10_removeConstraint_0 rfl ?_
  refine r_iload_n C dX10_removeConstraint_1 rfl ?_
  refine bd_e h (fun v26 σ26 hf26 h => ?_)
  refine r_callVi C g_X10_isConstraint hc_10 o_124 ml_X10_228 (mX10_isConstraint hl hI  hf26) rfl rfl (by exact Nat.le_of_ble_eq_true rfl) ⟨Nat.le_of_ble_eq_true rfl, Nat.le_of_ble_eq_true rfl, Nat.le_of_ble_eq_true rfl⟩ dX10_removeConstraint_2 ?_
  refine r_if_ne C (tgt := 14) h (by decide) dX10_removeConstraint_5 (fun hc h => ?_) (fun hc h => ?_)
  · refine r_aload_n C dX10_removeConstraint_14 rfl ?_
    refine r_iconst C ic_0 dX10_removeConstraint_15 ?_
    refine r_putI C ck_10 f_124_0 (by decide) fl_X10_117 rfl rfl rfl rfl rfl dX10_removeConstraint_16 h (fun σ27 h => ?_)
    refine r_aload_n C dX10_removeConstraint_19 rfl ?_
    refine bv_e h (fun σ28 hf28 h => ?_)
    refine r_callVv C g_X10_remembers hc_10 o_124 ml_X10_207 (mX10_remembers hl hI  hf28) rfl rfl (by exact Nat.le_of_ble_eq_true rfl) ⟨Nat.le_of_ble_eq_true rfl, Nat.le_of_ble_eq_true rfl, Nat.le_of_ble_eq_true rfl⟩ dX10_removeConstraint_20 ?_
    refine r_aload_n C dX10_removeConstraint_23 rfl ?_
    refine r_dup C rfl dX10_removeConstraint_24 ?_
    refine r_getI C ck_10 f_124_8 (by decide) fl_X10_123 rfl dX10_removeConstraint_25 ?_
    refine r_iconst C ic_1 dX10_removeConstraint_28 ?_
    refine r_isub C dX10_removeConstraint_29 ?_
    refine r_putI C ck_10 f_124_8 (by decide) fl_X10_123 rfl rfl rfl rfl rfl dX10_removeConstraint_30 h (fun σ29 h => ?_)
    refine r_iload_n C dX10_removeConstraint_33 rfl ?_
    refine r_istore_n C (by decide) dX10_removeConstraint_34 ?_
    refine r_weak C [some (.inr 124), none, some (.inl a1)] ⟨rfl, ⟨rfl, trivial⟩⟩ ?_
    exact L35 FU _ _ h
  · refine r_aload_n C dX10_removeConstraint_8 rfl ?_
    refine r_iconst C ic_1 dX10_removeConstraint_9 ?_
    refine bd_e h (fun v30 σ30 hf30 h => ?_)
    refine r_callVi C g_X10_fails hc_10 o_124 ml_X10_203 (mX10_fails hl hI  hf30) rfl rfl (by exact Nat.le_of_ble_eq_true rfl) ⟨Nat.le_of_ble_eq_true rfl, Nat.le_of_ble_eq_true rfl, Nat.le_of_ble_eq_true rfl⟩ dX10_removeConstraint_10 ?_
    exact r_iret C rfl (Nat.le_of_ble_eq_true rfl) dX10_removeConstraint_13 (re_i h)
set_option maxHeartbeats 4000000 in
set_option maxRecDepth 100000 in
theorem mX10_setWeight {l : Launch} {D : va_G} {ad : Nat → Nat} {cy : Nat → ClassId} (hl : l.stackTraces = false) (hI : Inj ad)   {σ τ : Mem} {a1 a2 : Int32} {r : Int32} (h : fX10_setWeight σ a1 a2 = some (r, τ)) : Co l D ad cy yX10_setWeight cX10_setWeight 4 (Option.some Jvm.ClassFile.FieldType.int) 6 213 0 [.ref (ad 124), .int a1, .int a2] σ (zi r) τ := by
  refine co_of (av := [.inr 124, .inl a1, .inl a2]) hl hI (by decide +kernel) (Nat.le_of_ble_eq_true rfl) [some (.inr 124), some (.inl a1), some (.inl a2), none] rfl (fun V C => ?_)
  have C : Rl l D ad cy RX10 cX10_setWeight 4 (Option.some Jvm.ClassFile.FieldType.int) 6 213 0 (zi r) τ V := C
  refine r_aload_n C dX10_setWeight_0 rfl ?_
  refine r_iload_n C dX10_setWeight_1 rfl ?_
  refine bd_e h (fun v17 σ17 hf17 h => ?_)
  refine r_callVi C g_X10_isConstraint hc_10 o_124 ml_X10_228 (mX10_isConstraint hl hI  hf17) rfl rfl (by exact Nat.le_of_ble_eq_true rfl) ⟨Nat.le_of_ble_eq_true rfl, Nat.le_of_ble_eq_true rfl, Nat.le_of_ble_eq_true rfl⟩ dX10_setWeight_2 ?_
  refine r_if_ne C (tgt := 14) h (by decide) dX10_setWeight_5 (fun hc h => ?_) (fun hc h => ?_)
  · refine r_iload_n C dX10_setWeight_14 rfl ?_
    refine r_iconst C ic_1 dX10_setWeight_15 ?_
    refine r_bipush C bp_9 dX10_setWeight_16 ?_
    refine bd_e h (fun v18 σ18 hf18 h => ?_)
    refine r_callSi C g_X10_isBetween ml_X10_199 (mX10_isBetween hl hI  hf18) rfl rfl (by exact Nat.le_of_ble_eq_true rfl) ⟨Nat.le_of_ble_eq_true rfl, Nat.le_of_ble_eq_true rfl, Nat.le_of_ble_eq_true rfl⟩ dX10_setWeight_18 ?_
    refine r_if_ne C (tgt := 30) h (by decide) dX10_setWeight_21 (fun hc h => ?_) (fun hc h => ?_)
    · refine r_aload_n C dX10_setWeight_30 rfl ?_
      refine r_iconst C ic_0 dX10_setWeight_31 ?_
      refine r_putI C ck_10 f_124_0 (by decide) fl_X10_117 rfl rfl rfl rfl rfl dX10_setWeight_32 h (fun σ19 h => ?_)
      refine r_aload_n C dX10_setWeight_35 rfl ?_
      refine bv_e h (fun σ20 hf20 h => ?_)
      refine r_callVv C g_X10_remembers hc_10 o_124 ml_X10_207 (mX10_remembers hl hI  hf20) rfl rfl (by exact Nat.le_of_ble_eq_true rfl) ⟨Nat.le_of_ble_eq_true rfl, Nat.le_of_ble_eq_true rfl, Nat.le_of_ble_eq_true rfl⟩ dX10_setWeight_36 ?_
      refine r_aload_n C dX10_setWeight_39 rfl ?_
      refine r_getR C ck_10 f_124_6 (by decide) fl_X10_25 rfl dX10_setWeight_40 ?_
      refine r_iload_n C dX10_setWeight_43 rfl ?_
      obtain ⟨hi, h⟩ := ck_e h
      refine r_iald C i_130 hi dX10_setWeight_44 ?_
      refine r_istore_n C (by decide) dX10_setWeight_45 ?_
      refine r_aload_n C dX10_setWeight_46 rfl ?_
      refine r_getR C ck_10 f_124_6 (by decide) fl_X10_25 rfl dX10_setWeight_47 ?_
      refine r_iload_n C dX10_setWeight_50 rfl ?_
      refine r_iload_n C dX10_setWeight_51 rfl ?_
      obtain ⟨hi, h⟩ := ck_e h
      refine r_iast C i_130 hi dX10_setWeight_52 h (fun σ21 h => ?_)
      refine r_aload_n C dX10_setWeight_53 rfl ?_
      refine bv_e h (fun σ22 hf22 h => ?_)
      refine r_callVv C g_X10_begins hc_10 o_124 ml_X10_196 (mX10_begins hl hI  hf22) rfl rfl (by exact Nat.le_of_ble_eq_true rfl) ⟨Nat.le_of_ble_eq_true rfl, Nat.le_of_ble_eq_true rfl, Nat.le_of_ble_eq_true rfl⟩ dX10_setWeight_54 ?_
      refine r_iload_n C dX10_setWeight_57 rfl ?_
      exact r_iret C rfl (Nat.le_of_ble_eq_true rfl) dX10_setWeight_58 (re_i h)
    · refine r_aload_n C dX10_setWeight_24 rfl ?_
      refine r_iconst C ic_2 dX10_setWeight_25 ?_
      refine bd_e h (fun v23 σ23 hf23 h => ?_)
      refine r_callVi C g_X10_fails hc_10 o_124 ml_X10_203 (mX10_fails hl hI  hf23) rfl rfl (by exact Nat.le_of_ble_eq_true rfl) ⟨Nat.le_of_ble_eq_true rfl, Nat.le_of_ble_eq_true rfl, Nat.le_of_ble_eq_true rfl⟩ dX10_setWeight_26 ?_
      exact r_iret C rfl (Nat.le_of_ble_eq_true rfl) dX10_setWeight_29 (re_i h)
  · refine r_aload_n C dX10_setWeight_8 rfl ?_
    refine r_iconst C ic_1 dX10_setWeight_9 ?_
    refine bd_e h (fun v24 σ24 hf24 h => ?_)
    refine r_callVi C g_X10_fails hc_10 o_124 ml_X10_203 (mX10_fails hl hI  hf24) rfl rfl (by exact Nat.le_of_ble_eq_true rfl) ⟨Nat.le_of_ble_eq_true rfl, Nat.le_of_ble_eq_true rfl, Nat.le_of_ble_eq_true rfl⟩ dX10_setWeight_10 ?_
    exact r_iret C rfl (Nat.le_of_ble_eq_true rfl) dX10_setWeight_13 (re_i h)
set_option maxHeartbeats 4000000 in
set_option maxRecDepth 100000 in
theorem mX10_isIn {l : Launch} {D : va_G} {ad : Nat → Nat} {cy : Nat → ClassId} (hl : l.stackTraces = false) (hI : Inj ad)   {σ τ : Mem} {a1 a2 : Int32} {r : Int32} (h : fX10_isIn σ a1 a2 = some (r, τ)) : Co l D ad cy yX10_isIn cX10_isIn 3 (Option.some Jvm.ClassFile.FieldType.boolean) 1 100 0 [.ref (ad 124), .int a1, .int a2] σ (zi r) τ := by
  refine co_of (av := [.inr 124, .inl a1, .inl a2]) hl hI (by decide +kernel) (Nat.le_of_ble_eq_true rfl) [some (.inr 124), some (.inl a1), some (.inl a2)] rfl (fun V C => ?_)
  have C : Rl l D ad cy RX10 cX10_isIn 3 (Option.some Jvm.ClassFile.FieldType.boolean) 1 100 0 (zi r) τ V := C
  have L18 : ∀ (σ : Mem), fX10_isIn_L18   σ  = some (r, τ) → V 0 σ 18 [none, none, none] [] := by
    intro  σ  h
    refine r_iconst C ic_0 dX10_isIn_18 ?_
    exact r_zret C rfl (Nat.le_of_ble_eq_true rfl) (Or.inl rfl) dX10_isIn_19 (re_i h)
  refine r_iload_n C dX10_isIn_0 rfl ?_
  refine r_if_lt C (tgt := 18) h (by decide) dX10_isIn_1 (fun hc h => ?_) (fun hc h => ?_)
  · refine r_weak C [none, none, none] trivial ?_
    exact L18 _ h
  · refine r_iload_n C dX10_isIn_4 rfl ?_
    refine r_aload_n C dX10_isIn_5 rfl ?_
    refine r_getR C ck_10 f_124_1 (by decide) fl_X10_7 rfl dX10_isIn_6 ?_
    refine r_iload_n C dX10_isIn_9 rfl ?_
    obtain ⟨hi, h⟩ := ck_e h
    refine r_iald C i_125 hi dX10_isIn_10 ?_
    refine r_ic_ge C (tgt := 18) h (by decide) dX10_isIn_11 (fun hc h => ?_) (fun hc h => ?_)
    · refine r_weak C [none, none, none] trivial ?_
      exact L18 _ h
    · refine r_iconst C ic_1 dX10_isIn_14 ?_
      refine r_goto C (tgt := 19) (by decide) dX10_isIn_15 ?_
      exact r_zret C rfl (Nat.le_of_ble_eq_true rfl) (Or.inr rfl) dX10_isIn_19 (re_i h)
set_option maxHeartbeats 4000000 in
set_option maxRecDepth 100000 in
theorem mX10_setValue {l : Launch} {D : va_G} {ad : Nat → Nat} {cy : Nat → ClassId} (hl : l.stackTraces = false) (hI : Inj ad)   {σ τ : Mem} {a1 a2 : Int32} {r : Int32} (h : fX10_setValue σ a1 a2 = some (r, τ)) : Co l D ad cy yX10_setValue cX10_setValue 4 (Option.some Jvm.ClassFile.FieldType.int) 6 213 0 [.ref (ad 124), .int a1, .int a2] σ (zi r) τ := by
  refine co_of (av := [.inr 124, .inl a1, .inl a2]) hl hI (by decide +kernel) (Nat.le_of_ble_eq_true rfl) [some (.inr 124), some (.inl a1), some (.inl a2), none] rfl (fun V C => ?_)
  have C : Rl l D ad cy RX10 cX10_setValue 4 (Option.some Jvm.ClassFile.FieldType.int) 6 213 0 (zi r) τ V := C
  refine r_aload_n C dX10_setValue_0 rfl ?_
  refine r_iload_n C dX10_setValue_1 rfl ?_
  refine bd_e h (fun v15 σ15 hf15 h => ?_)
  refine r_callVi C g_X10_isVariable hc_10 o_124 ml_X10_214 (mX10_isVariable hl hI  hf15) rfl rfl (by exact Nat.le_of_ble_eq_true rfl) ⟨Nat.le_of_ble_eq_true rfl, Nat.le_of_ble_eq_true rfl, Nat.le_of_ble_eq_true rfl⟩ dX10_setValue_2 ?_
  refine r_if_ne C (tgt := 14) h (by decide) dX10_setValue_5 (fun hc h => ?_) (fun hc h => ?_)
  · refine r_aload_n C dX10_setValue_14 rfl ?_
    refine r_iload_n C dX10_setValue_15 rfl ?_
    refine r_iload_n C dX10_setValue_16 rfl ?_
    refine bd_e h (fun v16 σ16 hf16 h => ?_)
    refine r_callVi C g_X10_isIn hc_10 o_124 ml_X10_231 (mX10_isIn hl hI  hf16) rfl rfl (by exact Nat.le_of_ble_eq_true rfl) ⟨Nat.le_of_ble_eq_true rfl, Nat.le_of_ble_eq_true rfl, Nat.le_of_ble_eq_true rfl⟩ dX10_setValue_17 ?_
    refine r_if_ne C (tgt := 29) h (by decide) dX10_setValue_20 (fun hc h => ?_) (fun hc h => ?_)
    · refine r_aload_n C dX10_setValue_29 rfl ?_
      refine r_iconst C ic_0 dX10_setValue_30 ?_
      refine r_putI C ck_10 f_124_0 (by decide) fl_X10_117 rfl rfl rfl rfl rfl dX10_setValue_31 h (fun σ17 h => ?_)
      refine r_aload_n C dX10_setValue_34 rfl ?_
      refine r_getR C ck_10 f_124_2 (by decide) fl_X10_13 rfl dX10_setValue_35 ?_
      refine r_iload_n C dX10_setValue_38 rfl ?_
      obtain ⟨hi, h⟩ := ck_e h
      refine r_iald C i_126 hi dX10_setValue_39 ?_
      refine r_istore_n C (by decide) dX10_setValue_40 ?_
      refine r_aload_n C dX10_setValue_41 rfl ?_
      refine r_getR C ck_10 f_124_2 (by decide) fl_X10_13 rfl dX10_setValue_42 ?_
      refine r_iload_n C dX10_setValue_45 rfl ?_
      refine r_iload_n C dX10_setValue_46 rfl ?_
      obtain ⟨hi, h⟩ := ck_e h
      refine r_iast C i_126 hi dX10_setValue_47 h (fun σ18 h => ?_)
      refine r_aload_n C dX10_setValue_48 rfl ?_
      refine bv_e h (fun σ19 hf19 h => ?_)
      refine r_callVv C g_X10_begins hc_10 o_124 ml_X10_196 (mX10_begins hl hI  hf19) rfl rfl (by exact Nat.le_of_ble_eq_true rfl) ⟨Nat.le_of_ble_eq_true rfl, Nat.le_of_ble_eq_true rfl, Nat.le_of_ble_eq_true rfl⟩ dX10_setValue_49 ?_
      refine r_iload_n C dX10_setValue_52 rfl ?_
      exact r_iret C rfl (Nat.le_of_ble_eq_true rfl) dX10_setValue_53 (re_i h)
    · refine r_aload_n C dX10_setValue_23 rfl ?_
      refine r_iconst C ic_2 dX10_setValue_24 ?_
      refine bd_e h (fun v20 σ20 hf20 h => ?_)
      refine r_callVi C g_X10_fails hc_10 o_124 ml_X10_203 (mX10_fails hl hI  hf20) rfl rfl (by exact Nat.le_of_ble_eq_true rfl) ⟨Nat.le_of_ble_eq_true rfl, Nat.le_of_ble_eq_true rfl, Nat.le_of_ble_eq_true rfl⟩ dX10_setValue_25 ?_
      exact r_iret C rfl (Nat.le_of_ble_eq_true rfl) dX10_setValue_28 (re_i h)
  · refine r_aload_n C dX10_setValue_8 rfl ?_
    refine r_iconst C ic_1 dX10_setValue_9 ?_
    refine bd_e h (fun v21 σ21 hf21 h => ?_)
    refine r_callVi C g_X10_fails hc_10 o_124 ml_X10_203 (mX10_fails hl hI  hf21) rfl rfl (by exact Nat.le_of_ble_eq_true rfl) ⟨Nat.le_of_ble_eq_true rfl, Nat.le_of_ble_eq_true rfl, Nat.le_of_ble_eq_true rfl⟩ dX10_setValue_10 ?_
    exact r_iret C rfl (Nat.le_of_ble_eq_true rfl) dX10_setValue_13 (re_i h)
set_option maxHeartbeats 4000000 in
set_option maxRecDepth 100000 in
theorem mX10_combinations {l : Launch} {D : va_G} {ad : Nat → Nat} {cy : Nat → ClassId} (hl : l.stackTraces = false) (hI : Inj ad)   {σ τ : Mem} {r : Int32} (h : fX10_combinations σ = some (r, τ)) : Co l D ad cy yX10_combinations cX10_combinations 3 (Option.some Jvm.ClassFile.FieldType.int) 1 100 0 [.ref (ad 124)] σ (zi r) τ := by
  refine co_of (av := [.inr 124]) hl hI (by decide +kernel) (Nat.le_of_ble_eq_true rfl) [some (.inr 124), none, none] rfl (fun V C => ?_)
  have C : Rl l D ad cy RX10 cX10_combinations 3 (Option.some Jvm.ClassFile.FieldType.int) 1 100 0 (zi r) τ V := C
  have L4 : ∀ (n : Nat) (σ : Mem) (l1 l2 : Int32), fX10_combinations_L4  n σ l1 l2 = some (r, τ) → V 0 σ 4 [some (.inr 124), some (.inl l1), some (.inl l2)] [] := by
    intro n4
    induction n4 with
    | zero => intro σ l1 l2 h; exact no_e h
    | succ n4 ih4 =>
      intro σ l1 l2 h
      have h : fX10_combinations_B4  (fX10_combinations_L4  n4) σ l1 l2 = some (r, τ) := h
      refine r_iload_n C dX10_combinations_4 rfl ?_
      refine r_aload_n C dX10_combinations_5 rfl ?_
      refine r_getI C ck_10 f_124_7 (by decide) fl_X10_120 rfl dX10_combinations_6 ?_
      refine r_ic_ge C (tgt := 27) h (by decide) dX10_combinations_9 (fun hc h => ?_) (fun hc h => ?_)
      · refine r_iload_n C dX10_combinations_27 rfl ?_
        exact r_iret C rfl (Nat.le_of_ble_eq_true rfl) dX10_combinations_28 (re_i h)
      · refine r_iload_n C dX10_combinations_12 rfl ?_
        refine r_aload_n C dX10_combinations_13 rfl ?_
        refine r_getR C ck_10 f_124_1 (by decide) fl_X10_7 rfl dX10_combinations_14 ?_
        refine r_iload_n C dX10_combinations_17 rfl ?_
        obtain ⟨hi, h⟩ := ck_e h
        refine r_iald C i_125 hi dX10_combinations_18 ?_
        refine r_imul C dX10_combinations_19 ?_
        refine r_istoreL_n C h (by decide) dX10_combinations_20 (fun x3 h => ?_)
        refine r_iinc C ic_1 (by decide) dX10_combinations_21 rfl ?_
        refine r_goto C (tgt := 4) (by decide) dX10_combinations_24 ?_
        exact ih4 _ _ _ h
  refine r_iconst C ic_1 dX10_combinations_0 ?_
  refine r_istore_n C (by decide) dX10_combinations_1 ?_
  refine r_iconst C ic_0 dX10_combinations_2 ?_
  refine r_istore_n C (by decide) dX10_combinations_3 ?_
  exact L4 FU _ _ _ h
set_option maxHeartbeats 4000000 in
set_option maxRecDepth 100000 in
theorem mX10_count {l : Launch} {D : va_G} {ad : Nat → Nat} {cy : Nat → ClassId} (hl : l.stackTraces = false) (hI : Inj ad)   {σ τ : Mem} {a1 : Int32} {r : Int32} (h : fX10_count σ a1 = some (r, τ)) : Co l D ad cy yX10_count cX10_count 4 (Option.some Jvm.ClassFile.FieldType.int) 4 170 0 [.ref (ad 124), .int a1] σ (zi r) τ := by
  refine co_of (av := [.inr 124, .inl a1]) hl hI (by decide +kernel) (Nat.le_of_ble_eq_true rfl) [some (.inr 124), some (.inl a1), none, none] rfl (fun V C => ?_)
  have C : Rl l D ad cy RX10 cX10_count 4 (Option.some Jvm.ClassFile.FieldType.int) 4 170 0 (zi r) τ V := C
  have L60 : ∀ (n : Nat) (σ : Mem) (l2 l3 : Int32), fX10_count_L60  n σ l2 l3 = some (r, τ) → V 0 σ 60 [some (.inr 124), none, some (.inl l2), some (.inl l3)] [] := by
    intro n60
    induction n60 with
    | zero => intro σ l2 l3 h; exact no_e h
    | succ n60 ih60 =>
      have L86 : ∀ (σ : Mem) (l3 s0 s1 : Int32), fX10_count_L86 (fX10_count_L60  n60)  σ l3 s0 s1 = some (r, τ) → V 0 σ 86 [some (.inr 124), none, none, some (.inl l3)] [.int s1, .int s0] := by
        intro  σ l3 s0 s1 h
        refine r_iadd C dX10_count_86 ?_
        refine r_istore_n C (by decide) dX10_count_87 ?_
        refine r_iinc C ic_1 (by decide) dX10_count_88 rfl ?_
        refine r_goto C (tgt := 60) (by decide) dX10_count_91 ?_
        exact ih60 _ _ _ h
      intro σ l2 l3 h
      have h : fX10_count_B60  (fX10_count_L60  n60) σ l2 l3 = some (r, τ) := h
      refine r_iload_n C dX10_count_60 rfl ?_
      refine r_aload_n C dX10_count_61 rfl ?_
      refine r_getI C ck_10 f_124_8 (by decide) fl_X10_123 rfl dX10_count_62 ?_
      refine r_ic_ge C (tgt := 94) h (by decide) dX10_count_65 (fun hc h => ?_) (fun hc h => ?_)
      · refine r_iload_n C dX10_count_94 rfl ?_
        exact r_iret C rfl (Nat.le_of_ble_eq_true rfl) dX10_count_95 (re_i h)
      · refine r_iload_n C dX10_count_68 rfl ?_
        refine r_aload_n C dX10_count_69 rfl ?_
        refine r_iload_n C dX10_count_70 rfl ?_
        refine r_aload_n C dX10_count_71 rfl ?_
        refine r_getR C ck_10 f_124_2 (by decide) fl_X10_13 rfl dX10_count_72 ?_
        refine bd_e h (fun v11 σ11 hf11 h => ?_)
        refine r_callVi C g_X10_violationOf hc_10 o_124 ml_X10_144 (mX10_violationOf hl hI i_126 hf11) rfl rfl (by exact Nat.le_of_ble_eq_true rfl) ⟨Nat.le_of_ble_eq_true rfl, Nat.le_of_ble_eq_true rfl, Nat.le_of_ble_eq_true rfl⟩ dX10_count_75 ?_
        refine r_if_le C (tgt := 85) h (by decide) dX10_count_78 (fun hc h => ?_) (fun hc h => ?_)
        · refine r_iconst C ic_0 dX10_count_85 ?_
          refine r_weak C [some (.inr 124), none, none, some (.inl l3)] ⟨rfl, ⟨rfl, trivial⟩⟩ ?_
          exact L86 _ _ _ _ h
        · refine r_iconst C ic_1 dX10_count_81 ?_
          refine r_goto C (tgt := 86) (by decide) dX10_count_82 ?_
          refine r_weak C [some (.inr 124), none, none, some (.inl l3)] ⟨rfl, ⟨rfl, trivial⟩⟩ ?_
          exact L86 _ _ _ _ h
  refine r_iload_n C dX10_count_0 rfl ?_
  refine r_iconst C ic_0 dX10_count_1 ?_
  refine r_iconst C ic_3 dX10_count_2 ?_
  refine bd_e h (fun v12 σ12 hf12 h => ?_)
  refine r_callSi C g_X10_isBetween ml_X10_199 (mX10_isBetween hl hI  hf12) rfl rfl (by exact Nat.le_of_ble_eq_true rfl) ⟨Nat.le_of_ble_eq_true rfl, Nat.le_of_ble_eq_true rfl, Nat.le_of_ble_eq_true rfl⟩ dX10_count_3 ?_
  refine r_if_ne C (tgt := 15) h (by decide) dX10_count_6 (fun hc h => ?_) (fun hc h => ?_)
  · refine r_aload_n C dX10_count_15 rfl ?_
    refine r_iconst C ic_0 dX10_count_16 ?_
    refine r_putI C ck_10 f_124_0 (by decide) fl_X10_117 rfl rfl rfl rfl rfl dX10_count_17 h (fun σ13 h => ?_)
    refine r_iconst C ic_0 dX10_count_20 ?_
    refine r_istore_n C (by decide) dX10_count_21 ?_
    refine r_iload_n C dX10_count_22 rfl ?_
    refine sw_e h (fun he0 h => ?_) (fun he0 h => ?_)
    · refine r_tinE C 25 (tgt := 48) dX10_count_23 he0 ⟨by decide, by decide⟩ (by decide) (by decide) ?_
      refine r_aload_n C dX10_count_48 rfl ?_
      refine r_getI C ck_10 f_124_7 (by decide) fl_X10_120 rfl dX10_count_49 ?_
      exact r_iret C rfl (Nat.le_of_ble_eq_true rfl) dX10_count_52 (re_i h)
    · refine sw_e h (fun he1 h => ?_) (fun he1 h => ?_)
      · refine r_tinE C 30 (tgt := 53) dX10_count_23 he1 ⟨by decide, by decide⟩ (by decide) (by decide) ?_
        refine r_aload_n C dX10_count_53 rfl ?_
        refine r_getI C ck_10 f_124_8 (by decide) fl_X10_123 rfl dX10_count_54 ?_
        exact r_iret C rfl (Nat.le_of_ble_eq_true rfl) dX10_count_57 (re_i h)
      · refine sw_e h (fun he2 h => ?_) (fun he2 h => ?_)
        · refine r_tinE C 35 (tgt := 58) dX10_count_23 he2 ⟨by decide, by decide⟩ (by decide) (by decide) ?_
          refine r_iconst C ic_0 dX10_count_58 ?_
          refine r_istore_n C (by decide) dX10_count_59 ?_
          refine r_weak C [some (.inr 124), none, some (.inl (0 : Int32)), some (.inl (0 : Int32))] ⟨rfl, ⟨rfl, ⟨rfl, trivial⟩⟩⟩ ?_
          exact L60 FU _ _ _ h
        · refine r_tout C (tgt := 96) dX10_count_23 (tout 2 (by decide) (fun j hj => match j, hj with | 0, _ => he0 | 1, _ => he1 | 2, _ => he2)) (by decide) ?_
          refine r_aload_n C dX10_count_96 rfl ?_
          refine bd_e h (fun v14 σ14 hf14 h => ?_)
          refine r_callVi C g_X10_combinations hc_10 o_124 ml_X10_234 (mX10_combinations hl hI  hf14) rfl rfl (by exact Nat.le_of_ble_eq_true rfl) ⟨Nat.le_of_ble_eq_true rfl, Nat.le_of_ble_eq_true rfl, Nat.le_of_ble_eq_true rfl⟩ dX10_count_97 ?_
          exact r_iret C rfl (Nat.le_of_ble_eq_true rfl) dX10_count_100 (re_i h)
  · refine r_aload_n C dX10_count_9 rfl ?_
    refine r_iconst C ic_1 dX10_count_10 ?_
    refine bd_e h (fun v15 σ15 hf15 h => ?_)
    refine r_callVi C g_X10_fails hc_10 o_124 ml_X10_203 (mX10_fails hl hI  hf15) rfl rfl (by exact Nat.le_of_ble_eq_true rfl) ⟨Nat.le_of_ble_eq_true rfl, Nat.le_of_ble_eq_true rfl, Nat.le_of_ble_eq_true rfl⟩ dX10_count_11 ?_
    exact r_iret C rfl (Nat.le_of_ble_eq_true rfl) dX10_count_14 (re_i h)
set_option maxHeartbeats 4000000 in
set_option maxRecDepth 100000 in
theorem mX10_constraint {l : Launch} {D : va_G} {ad : Nat → Nat} {cy : Nat → ClassId} (hl : l.stackTraces = false) (hI : Inj ad)   {σ τ : Mem} {a1 a2 : Int32} {r : Int32} (h : fX10_constraint σ a1 a2 = some (r, τ)) : Co l D ad cy yX10_constraint cX10_constraint 3 (Option.some Jvm.ClassFile.FieldType.int) 2 122 0 [.ref (ad 124), .int a1, .int a2] σ (zi r) τ := by
  refine co_of (av := [.inr 124, .inl a1, .inl a2]) hl hI (by decide +kernel) (Nat.le_of_ble_eq_true rfl) [some (.inr 124), some (.inl a1), some (.inl a2)] rfl (fun V C => ?_)
  have C : Rl l D ad cy RX10 cX10_constraint 3 (Option.some Jvm.ClassFile.FieldType.int) 2 122 0 (zi r) τ V := C
  refine r_aload_n C dX10_constraint_0 rfl ?_
  refine r_iload_n C dX10_constraint_1 rfl ?_
  refine bd_e h (fun v11 σ11 hf11 h => ?_)
  refine r_callVi C g_X10_isConstraint hc_10 o_124 ml_X10_228 (mX10_isConstraint hl hI  hf11) rfl rfl (by exact Nat.le_of_ble_eq_true rfl) ⟨Nat.le_of_ble_eq_true rfl, Nat.le_of_ble_eq_true rfl, Nat.le_of_ble_eq_true rfl⟩ dX10_constraint_2 ?_
  refine r_if_ne C (tgt := 14) h (by decide) dX10_constraint_5 (fun hc h => ?_) (fun hc h => ?_)
  · refine r_iload_n C dX10_constraint_14 rfl ?_
    refine r_iconst C ic_0 dX10_constraint_15 ?_
    refine r_iconst C ic_3 dX10_constraint_16 ?_
    refine bd_e h (fun v12 σ12 hf12 h => ?_)
    refine r_callSi C g_X10_isBetween ml_X10_199 (mX10_isBetween hl hI  hf12) rfl rfl (by exact Nat.le_of_ble_eq_true rfl) ⟨Nat.le_of_ble_eq_true rfl, Nat.le_of_ble_eq_true rfl, Nat.le_of_ble_eq_true rfl⟩ dX10_constraint_17 ?_
    refine r_if_ne C (tgt := 29) h (by decide) dX10_constraint_20 (fun hc h => ?_) (fun hc h => ?_)
    · refine r_aload_n C dX10_constraint_29 rfl ?_
      refine r_iconst C ic_0 dX10_constraint_30 ?_
      refine r_putI C ck_10 f_124_0 (by decide) fl_X10_117 rfl rfl rfl rfl rfl dX10_constraint_31 h (fun σ13 h => ?_)
      refine r_iload_n C dX10_constraint_34 rfl ?_
      refine r_if_ne C (tgt := 47) h (by decide) dX10_constraint_35 (fun hc h => ?_) (fun hc h => ?_)
      · refine r_iload_n C dX10_constraint_47 rfl ?_
        refine r_iconst C ic_1 dX10_constraint_48 ?_
        refine r_ic_ne C (tgt := 61) h (by decide) dX10_constraint_49 (fun hc h => ?_) (fun hc h => ?_)
        · refine r_iload_n C dX10_constraint_61 rfl ?_
          refine r_iconst C ic_2 dX10_constraint_62 ?_
          refine r_ic_ne C (tgt := 75) h (by decide) dX10_constraint_63 (fun hc h => ?_) (fun hc h => ?_)
          · refine r_aload_n C dX10_constraint_75 rfl ?_
            refine r_getR C ck_10 f_124_6 (by decide) fl_X10_25 rfl dX10_constraint_76 ?_
            refine r_iload_n C dX10_constraint_79 rfl ?_
            obtain ⟨hi, h⟩ := ck_e h
            refine r_iald C i_130 hi dX10_constraint_80 ?_
            exact r_iret C rfl (Nat.le_of_ble_eq_true rfl) dX10_constraint_81 (re_i h)
          · refine r_aload_n C dX10_constraint_66 rfl ?_
            refine r_getR C ck_10 f_124_5 (by decide) fl_X10_22 rfl dX10_constraint_67 ?_
            refine r_iload_n C dX10_constraint_70 rfl ?_
            obtain ⟨hi, h⟩ := ck_e h
            refine r_iald C i_129 hi dX10_constraint_71 ?_
            refine r_goto C (tgt := 81) (by decide) dX10_constraint_72 ?_
            exact r_iret C rfl (Nat.le_of_ble_eq_true rfl) dX10_constraint_81 (re_i h)
        · refine r_aload_n C dX10_constraint_52 rfl ?_
          refine r_getR C ck_10 f_124_4 (by decide) fl_X10_19 rfl dX10_constraint_53 ?_
          refine r_iload_n C dX10_constraint_56 rfl ?_
          obtain ⟨hi, h⟩ := ck_e h
          refine r_iald C i_128 hi dX10_constraint_57 ?_
          refine r_goto C (tgt := 81) (by decide) dX10_constraint_58 ?_
          exact r_iret C rfl (Nat.le_of_ble_eq_true rfl) dX10_constraint_81 (re_i h)
      · refine r_aload_n C dX10_constraint_38 rfl ?_
        refine r_getR C ck_10 f_124_3 (by decide) fl_X10_16 rfl dX10_constraint_39 ?_
        refine r_iload_n C dX10_constraint_42 rfl ?_
        obtain ⟨hi, h⟩ := ck_e h
        refine r_iald C i_127 hi dX10_constraint_43 ?_
        refine r_goto C (tgt := 81) (by decide) dX10_constraint_44 ?_
        exact r_iret C rfl (Nat.le_of_ble_eq_true rfl) dX10_constraint_81 (re_i h)
    · refine r_aload_n C dX10_constraint_23 rfl ?_
      refine r_iconst C ic_2 dX10_constraint_24 ?_
      refine bd_e h (fun v14 σ14 hf14 h => ?_)
      refine r_callVi C g_X10_fails hc_10 o_124 ml_X10_203 (mX10_fails hl hI  hf14) rfl rfl (by exact Nat.le_of_ble_eq_true rfl) ⟨Nat.le_of_ble_eq_true rfl, Nat.le_of_ble_eq_true rfl, Nat.le_of_ble_eq_true rfl⟩ dX10_constraint_25 ?_
      exact r_iret C rfl (Nat.le_of_ble_eq_true rfl) dX10_constraint_28 (re_i h)
  · refine r_aload_n C dX10_constraint_8 rfl ?_
    refine r_iconst C ic_1 dX10_constraint_9 ?_
    refine bd_e h (fun v15 σ15 hf15 h => ?_)
    refine r_callVi C g_X10_fails hc_10 o_124 ml_X10_203 (mX10_fails hl hI  hf15) rfl rfl (by exact Nat.le_of_ble_eq_true rfl) ⟨Nat.le_of_ble_eq_true rfl, Nat.le_of_ble_eq_true rfl, Nat.le_of_ble_eq_true rfl⟩ dX10_constraint_10 ?_
    exact r_iret C rfl (Nat.le_of_ble_eq_true rfl) dX10_constraint_13 (re_i h)
set_option maxHeartbeats 4000000 in
set_option maxRecDepth 100000 in
theorem mX10_variable {l : Launch} {D : va_G} {ad : Nat → Nat} {cy : Nat → ClassId} (hl : l.stackTraces = false) (hI : Inj ad)   {σ τ : Mem} {a1 a2 : Int32} {r : Int32} (h : fX10_variable σ a1 a2 = some (r, τ)) : Co l D ad cy yX10_variable cX10_variable 5 (Option.some Jvm.ClassFile.FieldType.int) 5 193 0 [.ref (ad 124), .int a1, .int a2] σ (zi r) τ := by
  refine co_of (av := [.inr 124, .inl a1, .inl a2]) hl hI (by decide +kernel) (Nat.le_of_ble_eq_true rfl) [some (.inr 124), some (.inl a1), some (.inl a2), none, none] rfl (fun V C => ?_)
  have C : Rl l D ad cy RX10 cX10_variable 5 (Option.some Jvm.ClassFile.FieldType.int) 5 193 0 (zi r) τ V := C
  have L39 : ∀ (n : Nat) (σ : Mem) (l1 l2 l3 l4 : Int32), fX10_variable_L39  n σ l1 l2 l3 l4 = some (r, τ) → V 0 σ 39 [some (.inr 124), some (.inl l1), some (.inl l2), some (.inl l3), some (.inl l4)] [] := by
    intro n39
    induction n39 with
    | zero => intro σ l1 l2 l3 l4 h; exact no_e h
    | succ n39 ih39 =>
      have L68 : ∀ (σ : Mem) (l1 l2 l4 s0 s1 : Int32), fX10_variable_L68 (fX10_variable_L39  n39)  σ l1 l2 l4 s0 s1 = some (r, τ) → V 0 σ 68 [some (.inr 124), some (.inl l1), some (.inl l2), none, some (.inl l4)] [.int s1, .int s0] := by
        intro  σ l1 l2 l4 s0 s1 h
        refine r_iadd C dX10_variable_68 ?_
        refine r_istore_n C (by decide) dX10_variable_69 ?_
        refine r_iinc C ic_1 (by decide) dX10_variable_70 rfl ?_
        refine r_goto C (tgt := 39) (by decide) dX10_variable_73 ?_
        exact ih39 _ _ _ _ _ h
      intro σ l1 l2 l3 l4 h
      have h : fX10_variable_B39  (fX10_variable_L39  n39) σ l1 l2 l3 l4 = some (r, τ) := h
      refine r_iload C dX10_variable_39 rfl ?_
      refine r_aload_n C dX10_variable_41 rfl ?_
      refine r_getI C ck_10 f_124_8 (by decide) fl_X10_123 rfl dX10_variable_42 ?_
      refine r_ic_ge C (tgt := 76) h (by decide) dX10_variable_45 (fun hc h => ?_) (fun hc h => ?_)
      · refine r_iload_n C dX10_variable_76 rfl ?_
        refine r_if_ne C (tgt := 89) h (by decide) dX10_variable_77 (fun hc h => ?_) (fun hc h => ?_)
        · refine r_iload_n C dX10_variable_89 rfl ?_
          refine r_iconst C ic_1 dX10_variable_90 ?_
          refine r_ic_ne C (tgt := 103) h (by decide) dX10_variable_91 (fun hc h => ?_) (fun hc h => ?_)
          · refine r_iload_n C dX10_variable_103 rfl ?_
            refine r_iconst C ic_2 dX10_variable_104 ?_
            refine r_ic_ne C (tgt := 117) h (by decide) dX10_variable_105 (fun hc h => ?_) (fun hc h => ?_)
            · refine r_iload_n C dX10_variable_117 rfl ?_
              refine r_iconst C ic_3 dX10_variable_118 ?_
              refine r_ic_ne C (tgt := 130) h (by decide) dX10_variable_119 (fun hc h => ?_) (fun hc h => ?_)
              · refine r_iload_n C dX10_variable_130 rfl ?_
                exact r_iret C rfl (Nat.le_of_ble_eq_true rfl) dX10_variable_131 (re_i h)
              · refine r_aload_n C dX10_variable_122 rfl ?_
                refine r_iload_n C dX10_variable_123 rfl ?_
                refine bd_e h (fun v15 σ15 hf15 h => ?_)
                refine r_callVi C g_X10_conflictOf hc_10 o_124 ml_X10_238 (mX10_conflictOf hl hI  hf15) rfl rfl (by exact Nat.le_of_ble_eq_true rfl) ⟨Nat.le_of_ble_eq_true rfl, Nat.le_of_ble_eq_true rfl, Nat.le_of_ble_eq_true rfl⟩ dX10_variable_124 ?_
                refine r_goto C (tgt := 131) (by decide) dX10_variable_127 ?_
                exact r_iret C rfl (Nat.le_of_ble_eq_true rfl) dX10_variable_131 (re_i h)
            · refine r_aload_n C dX10_variable_108 rfl ?_
              refine r_getR C ck_10 f_124_10 (by decide) fl_X10_31 rfl dX10_variable_109 ?_
              refine r_iload_n C dX10_variable_112 rfl ?_
              obtain ⟨hi, h⟩ := ck_e h
              refine r_iald C i_132 hi dX10_variable_113 ?_
              refine r_goto C (tgt := 131) (by decide) dX10_variable_114 ?_
              exact r_iret C rfl (Nat.le_of_ble_eq_true rfl) dX10_variable_131 (re_i h)
          · refine r_aload_n C dX10_variable_94 rfl ?_
            refine r_getR C ck_10 f_124_2 (by decide) fl_X10_13 rfl dX10_variable_95 ?_
            refine r_iload_n C dX10_variable_98 rfl ?_
            obtain ⟨hi, h⟩ := ck_e h
            refine r_iald C i_126 hi dX10_variable_99 ?_
            refine r_goto C (tgt := 131) (by decide) dX10_variable_100 ?_
            exact r_iret C rfl (Nat.le_of_ble_eq_true rfl) dX10_variable_131 (re_i h)
        · refine r_aload_n C dX10_variable_80 rfl ?_
          refine r_getR C ck_10 f_124_1 (by decide) fl_X10_7 rfl dX10_variable_81 ?_
          refine r_iload_n C dX10_variable_84 rfl ?_
          obtain ⟨hi, h⟩ := ck_e h
          refine r_iald C i_125 hi dX10_variable_85 ?_
          refine r_goto C (tgt := 131) (by decide) dX10_variable_86 ?_
          exact r_iret C rfl (Nat.le_of_ble_eq_true rfl) dX10_variable_131 (re_i h)
      · refine r_iload_n C dX10_variable_48 rfl ?_
        refine r_aload_n C dX10_variable_49 rfl ?_
        refine r_getR C ck_10 f_124_4 (by decide) fl_X10_19 rfl dX10_variable_50 ?_
        refine r_iload C dX10_variable_53 rfl ?_
        obtain ⟨hi, h⟩ := ck_e h
        refine r_iald C i_128 hi dX10_variable_55 ?_
        refine r_iload_n C dX10_variable_56 rfl ?_
        refine bd_e h (fun v16 σ16 hf16 h => ?_)
        refine r_callSi C g_X10_has ml_X10_126 (mX10_has hl hI  hf16) rfl rfl (by exact Nat.le_of_ble_eq_true rfl) ⟨Nat.le_of_ble_eq_true rfl, Nat.le_of_ble_eq_true rfl, Nat.le_of_ble_eq_true rfl⟩ dX10_variable_57 ?_
        refine r_if_eq C (tgt := 67) h (by decide) dX10_variable_60 (fun hc h => ?_) (fun hc h => ?_)
        · refine r_iconst C ic_0 dX10_variable_67 ?_
          refine r_weak C [some (.inr 124), some (.inl l1), some (.inl l2), none, some (.inl l4)] ⟨rfl, ⟨rfl, ⟨rfl, ⟨rfl, trivial⟩⟩⟩⟩ ?_
          exact L68 _ _ _ _ _ _ h
        · refine r_iconst C ic_1 dX10_variable_63 ?_
          refine r_goto C (tgt := 68) (by decide) dX10_variable_64 ?_
          refine r_weak C [some (.inr 124), some (.inl l1), some (.inl l2), none, some (.inl l4)] ⟨rfl, ⟨rfl, ⟨rfl, ⟨rfl, trivial⟩⟩⟩⟩ ?_
          exact L68 _ _ _ _ _ _ h
  refine r_aload_n C dX10_variable_0 rfl ?_
  refine r_iload_n C dX10_variable_1 rfl ?_
  refine bd_e h (fun v17 σ17 hf17 h => ?_)
  refine r_callVi C g_X10_isVariable hc_10 o_124 ml_X10_214 (mX10_isVariable hl hI  hf17) rfl rfl (by exact Nat.le_of_ble_eq_true rfl) ⟨Nat.le_of_ble_eq_true rfl, Nat.le_of_ble_eq_true rfl, Nat.le_of_ble_eq_true rfl⟩ dX10_variable_2 ?_
  refine r_if_ne C (tgt := 14) h (by decide) dX10_variable_5 (fun hc h => ?_) (fun hc h => ?_)
  · refine r_iload_n C dX10_variable_14 rfl ?_
    refine r_iconst C ic_0 dX10_variable_15 ?_
    refine r_iconst C ic_4 dX10_variable_16 ?_
    refine bd_e h (fun v18 σ18 hf18 h => ?_)
    refine r_callSi C g_X10_isBetween ml_X10_199 (mX10_isBetween hl hI  hf18) rfl rfl (by exact Nat.le_of_ble_eq_true rfl) ⟨Nat.le_of_ble_eq_true rfl, Nat.le_of_ble_eq_true rfl, Nat.le_of_ble_eq_true rfl⟩ dX10_variable_17 ?_
    refine r_if_ne C (tgt := 29) h (by decide) dX10_variable_20 (fun hc h => ?_) (fun hc h => ?_)
    · refine r_aload_n C dX10_variable_29 rfl ?_
      refine r_iconst C ic_0 dX10_variable_30 ?_
      refine r_putI C ck_10 f_124_0 (by decide) fl_X10_117 rfl rfl rfl rfl rfl dX10_variable_31 h (fun σ19 h => ?_)
      refine r_iconst C ic_0 dX10_variable_34 ?_
      refine r_istore_n C (by decide) dX10_variable_35 ?_
      refine r_iconst C ic_0 dX10_variable_36 ?_
      refine r_istore C (by decide) dX10_variable_37 ?_
      exact L39 FU _ _ _ _ _ h
    · refine r_aload_n C dX10_variable_23 rfl ?_
      refine r_iconst C ic_2 dX10_variable_24 ?_
      refine bd_e h (fun v20 σ20 hf20 h => ?_)
      refine r_callVi C g_X10_fails hc_10 o_124 ml_X10_203 (mX10_fails hl hI  hf20) rfl rfl (by exact Nat.le_of_ble_eq_true rfl) ⟨Nat.le_of_ble_eq_true rfl, Nat.le_of_ble_eq_true rfl, Nat.le_of_ble_eq_true rfl⟩ dX10_variable_25 ?_
      exact r_iret C rfl (Nat.le_of_ble_eq_true rfl) dX10_variable_28 (re_i h)
  · refine r_aload_n C dX10_variable_8 rfl ?_
    refine r_iconst C ic_1 dX10_variable_9 ?_
    refine bd_e h (fun v21 σ21 hf21 h => ?_)
    refine r_callVi C g_X10_fails hc_10 o_124 ml_X10_203 (mX10_fails hl hI  hf21) rfl rfl (by exact Nat.le_of_ble_eq_true rfl) ⟨Nat.le_of_ble_eq_true rfl, Nat.le_of_ble_eq_true rfl, Nat.le_of_ble_eq_true rfl⟩ dX10_variable_10 ?_
    exact r_iret C rfl (Nat.le_of_ble_eq_true rfl) dX10_variable_13 (re_i h)
set_option maxHeartbeats 4000000 in
set_option maxRecDepth 100000 in
theorem mX10_cost {l : Launch} {D : va_G} {ad : Nat → Nat} {cy : Nat → ClassId} (hl : l.stackTraces = false) (hI : Inj ad)   {σ τ : Mem} {r : Int32} (h : fX10_cost σ = some (r, τ)) : Co l D ad cy yX10_cost cX10_cost 1 (Option.some Jvm.ClassFile.FieldType.int) 1 100 0 [.ref (ad 124)] σ (zi r) τ := by
  refine co_of (av := [.inr 124]) hl hI (by decide +kernel) (Nat.le_of_ble_eq_true rfl) [some (.inr 124)] rfl (fun V C => ?_)
  have C : Rl l D ad cy RX10 cX10_cost 1 (Option.some Jvm.ClassFile.FieldType.int) 1 100 0 (zi r) τ V := C
  refine r_aload_n C dX10_cost_0 rfl ?_
  refine r_iconst C ic_0 dX10_cost_1 ?_
  refine r_putI C ck_10 f_124_0 (by decide) fl_X10_117 rfl rfl rfl rfl rfl dX10_cost_2 h (fun σ3 h => ?_)
  refine r_aload_n C dX10_cost_5 rfl ?_
  refine r_getI C ck_10 f_124_13 (by decide) fl_X10_147 rfl dX10_cost_6 ?_
  exact r_iret C rfl (Nat.le_of_ble_eq_true rfl) dX10_cost_9 (re_i h)
set_option maxHeartbeats 4000000 in
set_option maxRecDepth 100000 in
theorem mX10_bestCost {l : Launch} {D : va_G} {ad : Nat → Nat} {cy : Nat → ClassId} (hl : l.stackTraces = false) (hI : Inj ad)   {σ τ : Mem} {r : Int32} (h : fX10_bestCost σ = some (r, τ)) : Co l D ad cy yX10_bestCost cX10_bestCost 1 (Option.some Jvm.ClassFile.FieldType.int) 1 100 0 [.ref (ad 124)] σ (zi r) τ := by
  refine co_of (av := [.inr 124]) hl hI (by decide +kernel) (Nat.le_of_ble_eq_true rfl) [some (.inr 124)] rfl (fun V C => ?_)
  have C : Rl l D ad cy RX10 cX10_bestCost 1 (Option.some Jvm.ClassFile.FieldType.int) 1 100 0 (zi r) τ V := C
  refine r_aload_n C dX10_bestCost_0 rfl ?_
  refine r_iconst C ic_0 dX10_bestCost_1 ?_
  refine r_putI C ck_10 f_124_0 (by decide) fl_X10_117 rfl rfl rfl rfl rfl dX10_bestCost_2 h (fun σ3 h => ?_)
  refine r_aload_n C dX10_bestCost_5 rfl ?_
  refine r_getI C ck_10 f_124_14 (by decide) fl_X10_150 rfl dX10_bestCost_6 ?_
  exact r_iret C rfl (Nat.le_of_ble_eq_true rfl) dX10_bestCost_9 (re_i h)
set_option maxHeartbeats 4000000 in
set_option maxRecDepth 100000 in
theorem mX10_violation {l : Launch} {D : va_G} {ad : Nat → Nat} {cy : Nat → ClassId} (hl : l.stackTraces = false) (hI : Inj ad)   {σ τ : Mem} {a1 a2 : Int32} {r : Int32} (h : fX10_violation σ a1 a2 = some (r, τ)) : Co l D ad cy yX10_violation cX10_violation 3 (Option.some Jvm.ClassFile.FieldType.int) 4 170 0 [.ref (ad 124), .int a1, .int a2] σ (zi r) τ := by
  refine co_of (av := [.inr 124, .inl a1, .inl a2]) hl hI (by decide +kernel) (Nat.le_of_ble_eq_true rfl) [some (.inr 124), some (.inl a1), some (.inl a2)] rfl (fun V C => ?_)
  have C : Rl l D ad cy RX10 cX10_violation 3 (Option.some Jvm.ClassFile.FieldType.int) 4 170 0 (zi r) τ V := C
  have L36 : ∀ (p2 : Nat) (hp2 : isI 0 10 p2), ∀ (σ : Mem) (s1 : Int32), fX10_violation_L36  p2 σ s1 = some (r, τ) → V 0 σ 36 [none, none, none] [.ref (ad p2), .int s1, .ref (ad 124)] := by
    intro p2 hp2 σ s1 h
    refine bd_e h (fun v10 σ10 hf10 h => ?_)
    refine r_callVi C g_X10_violationOf hc_10 o_124 ml_X10_144 (mX10_violationOf hl hI hp2 hf10) rfl rfl (by exact Nat.le_of_ble_eq_true rfl) ⟨Nat.le_of_ble_eq_true rfl, Nat.le_of_ble_eq_true rfl, Nat.le_of_ble_eq_true rfl⟩ dX10_violation_36 ?_
    exact r_iret C rfl (Nat.le_of_ble_eq_true rfl) dX10_violation_39 (re_i h)
  refine r_aload_n C dX10_violation_0 rfl ?_
  refine r_iload_n C dX10_violation_1 rfl ?_
  refine bd_e h (fun v11 σ11 hf11 h => ?_)
  refine r_callVi C g_X10_isConstraint hc_10 o_124 ml_X10_228 (mX10_isConstraint hl hI  hf11) rfl rfl (by exact Nat.le_of_ble_eq_true rfl) ⟨Nat.le_of_ble_eq_true rfl, Nat.le_of_ble_eq_true rfl, Nat.le_of_ble_eq_true rfl⟩ dX10_violation_2 ?_
  refine r_if_ne C (tgt := 14) h (by decide) dX10_violation_5 (fun hc h => ?_) (fun hc h => ?_)
  · refine r_aload_n C dX10_violation_14 rfl ?_
    refine r_iconst C ic_0 dX10_violation_15 ?_
    refine r_putI C ck_10 f_124_0 (by decide) fl_X10_117 rfl rfl rfl rfl rfl dX10_violation_16 h (fun σ12 h => ?_)
    refine r_aload_n C dX10_violation_19 rfl ?_
    refine r_iload_n C dX10_violation_20 rfl ?_
    refine r_iload_n C dX10_violation_21 rfl ?_
    refine r_if_eq C (tgt := 32) h (by decide) dX10_violation_22 (fun hc h => ?_) (fun hc h => ?_)
    · refine r_aload_n C dX10_violation_32 rfl ?_
      refine r_getR C ck_10 f_124_2 (by decide) fl_X10_13 rfl dX10_violation_33 ?_
      refine r_weak C [none, none, none] trivial ?_
      exact L36 _ i_126 _ _ h
    · refine r_aload_n C dX10_violation_25 rfl ?_
      refine r_getR C ck_10 f_124_10 (by decide) fl_X10_31 rfl dX10_violation_26 ?_
      refine r_goto C (tgt := 36) (by decide) dX10_violation_29 ?_
      refine r_weak C [none, none, none] trivial ?_
      exact L36 _ i_132 _ _ h
  · refine r_aload_n C dX10_violation_8 rfl ?_
    refine r_iconst C ic_1 dX10_violation_9 ?_
    refine bd_e h (fun v13 σ13 hf13 h => ?_)
    refine r_callVi C g_X10_fails hc_10 o_124 ml_X10_203 (mX10_fails hl hI  hf13) rfl rfl (by exact Nat.le_of_ble_eq_true rfl) ⟨Nat.le_of_ble_eq_true rfl, Nat.le_of_ble_eq_true rfl, Nat.le_of_ble_eq_true rfl⟩ dX10_violation_10 ?_
    exact r_iret C rfl (Nat.le_of_ble_eq_true rfl) dX10_violation_13 (re_i h)
set_option maxHeartbeats 4000000 in
set_option maxRecDepth 100000 in
theorem mX10_mostBlamed {l : Launch} {D : va_G} {ad : Nat → Nat} {cy : Nat → ClassId} (hl : l.stackTraces = false) (hI : Inj ad)   {σ τ : Mem} {r : Int32} (h : fX10_mostBlamed σ = some (r, τ)) : Co l D ad cy yX10_mostBlamed cX10_mostBlamed 5 (Option.some Jvm.ClassFile.FieldType.int) 5 193 0 [.ref (ad 124)] σ (zi r) τ := by
  refine co_of (av := [.inr 124]) hl hI (by decide +kernel) (Nat.le_of_ble_eq_true rfl) [some (.inr 124), none, none, none, none] rfl (fun V C => ?_)
  have C : Rl l D ad cy RX10 cX10_mostBlamed 5 (Option.some Jvm.ClassFile.FieldType.int) 5 193 0 (zi r) τ V := C
  have L6 : ∀ (n : Nat) (σ : Mem) (l1 l2 l3 : Int32), fX10_mostBlamed_L6  n σ l1 l2 l3 = some (r, τ) → V 0 σ 6 [some (.inr 124), some (.inl l1), some (.inl l2), some (.inl l3), none] [] := by
    intro n6
    induction n6 with
    | zero => intro σ l1 l2 l3 h; exact no_e h
    | succ n6 ih6 =>
      have L45 : ∀ (σ : Mem) (l1 l3 s0 : Int32), fX10_mostBlamed_L45 (fX10_mostBlamed_L6  n6)  σ l1 l3 s0 = some (r, τ) → V 0 σ 45 [some (.inr 124), some (.inl l1), none, some (.inl l3), none] [.int s0] := by
        intro  σ l1 l3 s0 h
        refine r_istore_n C (by decide) dX10_mostBlamed_45 ?_
        refine r_iinc C ic_1 (by decide) dX10_mostBlamed_46 rfl ?_
        refine r_goto C (tgt := 6) (by decide) dX10_mostBlamed_49 ?_
        exact ih6 _ _ _ _ h
      have L32 : ∀ (σ : Mem) (l2 l3 l4 s0 : Int32), fX10_mostBlamed_L32 (fX10_mostBlamed_L6  n6)  σ l2 l3 l4 s0 = some (r, τ) → V 0 σ 32 [some (.inr 124), none, some (.inl l2), some (.inl l3), some (.inl l4)] [.int s0] := by
        intro  σ l2 l3 l4 s0 h
        refine r_istore_n C (by decide) dX10_mostBlamed_32 ?_
        refine r_iload C dX10_mostBlamed_33 rfl ?_
        refine r_iload_n C dX10_mostBlamed_35 rfl ?_
        refine r_ic_le C (tgt := 44) h (by decide) dX10_mostBlamed_36 (fun hc h => ?_) (fun hc h => ?_)
        · refine r_iload_n C dX10_mostBlamed_44 rfl ?_
          refine r_weak C [some (.inr 124), some (.inl s0), none, some (.inl l3), none] ⟨rfl, ⟨rfl, ⟨rfl, trivial⟩⟩⟩ ?_
          exact L45 _ _ _ _ h
        · refine r_iload C dX10_mostBlamed_39 rfl ?_
          refine r_goto C (tgt := 45) (by decide) dX10_mostBlamed_41 ?_
          refine r_weak C [some (.inr 124), some (.inl s0), none, some (.inl l3), none] ⟨rfl, ⟨rfl, ⟨rfl, trivial⟩⟩⟩ ?_
          exact L45 _ _ _ _ h
      intro σ l1 l2 l3 h
      have h : fX10_mostBlamed_B6  (fX10_mostBlamed_L6  n6) σ l1 l2 l3 = some (r, τ) := h
      refine r_iload_n C dX10_mostBlamed_6 rfl ?_
      refine r_aload_n C dX10_mostBlamed_7 rfl ?_
      refine r_getI C ck_10 f_124_7 (by decide) fl_X10_120 rfl dX10_mostBlamed_8 ?_
      refine r_ic_ge C (tgt := 52) h (by decide) dX10_mostBlamed_11 (fun hc h => ?_) (fun hc h => ?_)
      · refine r_iload_n C dX10_mostBlamed_52 rfl ?_
        refine r_if_ge C (tgt := 62) h (by decide) dX10_mostBlamed_53 (fun hc h => ?_) (fun hc h => ?_)
        · refine r_aload_n C dX10_mostBlamed_62 rfl ?_
          refine r_iconst C ic_0 dX10_mostBlamed_63 ?_
          refine r_putI C ck_10 f_124_0 (by decide) fl_X10_117 rfl rfl rfl rfl rfl dX10_mostBlamed_64 h (fun σ7 h => ?_)
          refine r_iload_n C dX10_mostBlamed_67 rfl ?_
          exact r_iret C rfl (Nat.le_of_ble_eq_true rfl) dX10_mostBlamed_68 (re_i h)
        · refine r_aload_n C dX10_mostBlamed_56 rfl ?_
          refine r_iconst C ic_1 dX10_mostBlamed_57 ?_
          refine bd_e h (fun v8 σ8 hf8 h => ?_)
          refine r_callVi C g_X10_fails hc_10 o_124 ml_X10_203 (mX10_fails hl hI  hf8) rfl rfl (by exact Nat.le_of_ble_eq_true rfl) ⟨Nat.le_of_ble_eq_true rfl, Nat.le_of_ble_eq_true rfl, Nat.le_of_ble_eq_true rfl⟩ dX10_mostBlamed_58 ?_
          exact r_iret C rfl (Nat.le_of_ble_eq_true rfl) dX10_mostBlamed_61 (re_i h)
      · refine r_aload_n C dX10_mostBlamed_14 rfl ?_
        refine r_iload_n C dX10_mostBlamed_15 rfl ?_
        refine bd_e h (fun v9 σ9 hf9 h => ?_)
        refine r_callVi C g_X10_conflictOf hc_10 o_124 ml_X10_238 (mX10_conflictOf hl hI  hf9) rfl rfl (by exact Nat.le_of_ble_eq_true rfl) ⟨Nat.le_of_ble_eq_true rfl, Nat.le_of_ble_eq_true rfl, Nat.le_of_ble_eq_true rfl⟩ dX10_mostBlamed_16 ?_
        refine r_istore C (by decide) dX10_mostBlamed_19 ?_
        refine r_iload C dX10_mostBlamed_21 rfl ?_
        refine r_iload_n C dX10_mostBlamed_23 rfl ?_
        refine r_ic_le C (tgt := 31) h (by decide) dX10_mostBlamed_24 (fun hc h => ?_) (fun hc h => ?_)
        · refine r_iload_n C dX10_mostBlamed_31 rfl ?_
          refine r_weak C [some (.inr 124), none, some (.inl l2), some (.inl l3), some (.inl v9)] ⟨rfl, ⟨rfl, ⟨rfl, ⟨rfl, trivial⟩⟩⟩⟩ ?_
          exact L32 _ _ _ _ _ h
        · refine r_iload_n C dX10_mostBlamed_27 rfl ?_
          refine r_goto C (tgt := 32) (by decide) dX10_mostBlamed_28 ?_
          refine r_weak C [some (.inr 124), none, some (.inl l2), some (.inl l3), some (.inl v9)] ⟨rfl, ⟨rfl, ⟨rfl, ⟨rfl, trivial⟩⟩⟩⟩ ?_
          exact L32 _ _ _ _ _ h
  refine r_iconst C ic_m1 dX10_mostBlamed_0 ?_
  refine r_istore_n C (by decide) dX10_mostBlamed_1 ?_
  refine r_iconst C ic_0 dX10_mostBlamed_2 ?_
  refine r_istore_n C (by decide) dX10_mostBlamed_3 ?_
  refine r_iconst C ic_0 dX10_mostBlamed_4 ?_
  refine r_istore_n C (by decide) dX10_mostBlamed_5 ?_
  exact L6 FU _ _ _ _ h
set_option maxHeartbeats 4000000 in
set_option maxRecDepth 100000 in
theorem mX10_relief {l : Launch} {D : va_G} {ad : Nat → Nat} {cy : Nat → ClassId} (hl : l.stackTraces = false) (hI : Inj ad)   {σ τ : Mem} {a1 : Int32} {r : Int32} (h : fX10_relief σ a1 = some (r, τ)) : Co l D ad cy yX10_relief cX10_relief 6 (Option.some Jvm.ClassFile.FieldType.int) 5 193 0 [.ref (ad 124), .int a1] σ (zi r) τ := by
  refine co_of (av := [.inr 124, .inl a1]) hl hI (by decide +kernel) (Nat.le_of_ble_eq_true rfl) [some (.inr 124), some (.inl a1), none, none, none, none] rfl (fun V C => ?_)
  have C : Rl l D ad cy RX10 cX10_relief 6 (Option.some Jvm.ClassFile.FieldType.int) 5 193 0 (zi r) τ V := C
  have L32 : ∀ (n : Nat) (σ : Mem) (l1 l2 l3 l4 : Int32), fX10_relief_L32  n σ l1 l2 l3 l4 = some (r, τ) → V 0 σ 32 [some (.inr 124), some (.inl l1), some (.inl l2), some (.inl l3), some (.inl l4), none] [] := by
    intro n32
    induction n32 with
    | zero => intro σ l1 l2 l3 l4 h; exact no_e h
    | succ n32 ih32 =>
      have L83 : ∀ (σ : Mem) (l1 l2 l3 l4 : Int32), fX10_relief_L83 (fX10_relief_L32  n32)  σ l1 l2 l3 l4 = some (r, τ) → V 0 σ 83 [some (.inr 124), some (.inl l1), some (.inl l2), some (.inl l3), some (.inl l4), none] [] := by
        intro  σ l1 l2 l3 l4 h
        refine r_iinc C ic_1 (by decide) dX10_relief_83 rfl ?_
        refine r_goto C (tgt := 32) (by decide) dX10_relief_86 ?_
        exact ih32 _ _ _ _ _ h
      have L82 : ∀ (σ : Mem) (l1 l2 l4 s0 : Int32), fX10_relief_L82 (fX10_relief_L32  n32)  σ l1 l2 l4 s0 = some (r, τ) → V 0 σ 82 [some (.inr 124), some (.inl l1), some (.inl l2), none, some (.inl l4), none] [.int s0] := by
        intro  σ l1 l2 l4 s0 h
        refine r_istore_n C (by decide) dX10_relief_82 ?_
        exact L83 _ _ _ _ _ h
      intro σ l1 l2 l3 l4 h
      have h : fX10_relief_B32  (fX10_relief_L32  n32) σ l1 l2 l3 l4 = some (r, τ) := h
      refine r_iload C dX10_relief_32 rfl ?_
      refine r_aload_n C dX10_relief_34 rfl ?_
      refine r_getR C ck_10 f_124_1 (by decide) fl_X10_7 rfl dX10_relief_35 ?_
      refine r_iload_n C dX10_relief_38 rfl ?_
      obtain ⟨hi, h⟩ := ck_e h
      refine r_iald C i_125 hi dX10_relief_39 ?_
      refine r_ic_ge C (tgt := 89) h (by decide) dX10_relief_40 (fun hc h => ?_) (fun hc h => ?_)
      · refine r_aload_n C dX10_relief_89 rfl ?_
        refine r_getR C ck_10 f_124_2 (by decide) fl_X10_13 rfl dX10_relief_90 ?_
        refine r_iload_n C dX10_relief_93 rfl ?_
        refine r_iload_n C dX10_relief_94 rfl ?_
        obtain ⟨hi, h⟩ := ck_e h
        refine r_iast C i_126 hi dX10_relief_95 h (fun σ13 h => ?_)
        refine r_aload_n C dX10_relief_96 rfl ?_
        refine r_getI C ck_10 f_124_13 (by decide) fl_X10_147 rfl dX10_relief_97 ?_
        refine r_iload_n C dX10_relief_100 rfl ?_
        refine r_isub C dX10_relief_101 ?_
        exact r_iret C rfl (Nat.le_of_ble_eq_true rfl) dX10_relief_102 (re_i h)
      · refine r_iload C dX10_relief_43 rfl ?_
        refine r_iload_n C dX10_relief_45 rfl ?_
        refine r_ic_ne C (tgt := 52) h (by decide) dX10_relief_46 (fun hc h => ?_) (fun hc h => ?_)
        · refine r_aload_n C dX10_relief_52 rfl ?_
          refine r_getR C ck_10 f_124_2 (by decide) fl_X10_13 rfl dX10_relief_53 ?_
          refine r_iload_n C dX10_relief_56 rfl ?_
          refine r_iload C dX10_relief_57 rfl ?_
          obtain ⟨hi, h⟩ := ck_e h
          refine r_iast C i_126 hi dX10_relief_59 h (fun σ14 h => ?_)
          refine r_aload_n C dX10_relief_60 rfl ?_
          refine r_aload_n C dX10_relief_61 rfl ?_
          refine r_getR C ck_10 f_124_2 (by decide) fl_X10_13 rfl dX10_relief_62 ?_
          refine bd_e h (fun v15 σ15 hf15 h => ?_)
          refine r_callVi C g_X10_costOf hc_10 o_124 ml_X10_159 (mX10_costOf hl hI i_126 hf15) rfl rfl (by exact Nat.le_of_ble_eq_true rfl) ⟨Nat.le_of_ble_eq_true rfl, Nat.le_of_ble_eq_true rfl, Nat.le_of_ble_eq_true rfl⟩ dX10_relief_65 ?_
          refine r_istore C (by decide) dX10_relief_68 ?_
          refine r_iload C dX10_relief_70 rfl ?_
          refine r_iload_n C dX10_relief_72 rfl ?_
          refine r_ic_ge C (tgt := 81) h (by decide) dX10_relief_73 (fun hc h => ?_) (fun hc h => ?_)
          · refine r_iload_n C dX10_relief_81 rfl ?_
            refine r_weak C [some (.inr 124), some (.inl l1), some (.inl l2), none, some (.inl l4), none] ⟨rfl, ⟨rfl, ⟨rfl, ⟨rfl, trivial⟩⟩⟩⟩ ?_
            exact L82 _ _ _ _ _ h
          · refine r_iload C dX10_relief_76 rfl ?_
            refine r_goto C (tgt := 82) (by decide) dX10_relief_78 ?_
            refine r_weak C [some (.inr 124), some (.inl l1), some (.inl l2), none, some (.inl l4), none] ⟨rfl, ⟨rfl, ⟨rfl, ⟨rfl, trivial⟩⟩⟩⟩ ?_
            exact L82 _ _ _ _ _ h
        · refine r_goto C (tgt := 83) (by decide) dX10_relief_49 ?_
          exact L83 _ _ _ _ _ h
  refine r_aload_n C dX10_relief_0 rfl ?_
  refine r_iload_n C dX10_relief_1 rfl ?_
  refine bd_e h (fun v16 σ16 hf16 h => ?_)
  refine r_callVi C g_X10_isVariable hc_10 o_124 ml_X10_214 (mX10_isVariable hl hI  hf16) rfl rfl (by exact Nat.le_of_ble_eq_true rfl) ⟨Nat.le_of_ble_eq_true rfl, Nat.le_of_ble_eq_true rfl, Nat.le_of_ble_eq_true rfl⟩ dX10_relief_2 ?_
  refine r_if_ne C (tgt := 14) h (by decide) dX10_relief_5 (fun hc h => ?_) (fun hc h => ?_)
  · refine r_aload_n C dX10_relief_14 rfl ?_
    refine r_iconst C ic_0 dX10_relief_15 ?_
    refine r_putI C ck_10 f_124_0 (by decide) fl_X10_117 rfl rfl rfl rfl rfl dX10_relief_16 h (fun σ17 h => ?_)
    refine r_aload_n C dX10_relief_19 rfl ?_
    refine r_getR C ck_10 f_124_2 (by decide) fl_X10_13 rfl dX10_relief_20 ?_
    refine r_iload_n C dX10_relief_23 rfl ?_
    obtain ⟨hi, h⟩ := ck_e h
    refine r_iald C i_126 hi dX10_relief_24 ?_
    refine r_istore_n C (by decide) dX10_relief_25 ?_
    refine r_ldc C kc_X10_241 dX10_relief_26 ?_
    refine r_istore_n C (by decide) dX10_relief_28 ?_
    refine r_iconst C ic_0 dX10_relief_29 ?_
    refine r_istore C (by decide) dX10_relief_30 ?_
    exact L32 FU _ _ _ _ _ h
  · refine r_aload_n C dX10_relief_8 rfl ?_
    refine r_iconst C ic_1 dX10_relief_9 ?_
    refine bd_e h (fun v18 σ18 hf18 h => ?_)
    refine r_callVi C g_X10_fails hc_10 o_124 ml_X10_203 (mX10_fails hl hI  hf18) rfl rfl (by exact Nat.le_of_ble_eq_true rfl) ⟨Nat.le_of_ble_eq_true rfl, Nat.le_of_ble_eq_true rfl, Nat.le_of_ble_eq_true rfl⟩ dX10_relief_10 ?_
    exact r_iret C rfl (Nat.le_of_ble_eq_true rfl) dX10_relief_13 (re_i h)
set_option maxHeartbeats 4000000 in
set_option maxRecDepth 100000 in
theorem mX10_takeBest {l : Launch} {D : va_G} {ad : Nat → Nat} {cy : Nat → ClassId} (hl : l.stackTraces = false) (hI : Inj ad)   {σ τ : Mem} {r : Int32} (h : fX10_takeBest σ = some (r, τ)) : Co l D ad cy yX10_takeBest cX10_takeBest 3 (Option.some Jvm.ClassFile.FieldType.int) 1 100 0 [.ref (ad 124)] σ (zi r) τ := by
  refine co_of (av := [.inr 124]) hl hI (by decide +kernel) (Nat.le_of_ble_eq_true rfl) [some (.inr 124), none, none] rfl (fun V C => ?_)
  have C : Rl l D ad cy RX10 cX10_takeBest 3 (Option.some Jvm.ClassFile.FieldType.int) 1 100 0 (zi r) τ V := C
  have L12 : ∀ (n : Nat) (σ : Mem) (l1 l2 : Int32), fX10_takeBest_L12  n σ l1 l2 = some (r, τ) → V 0 σ 12 [some (.inr 124), some (.inl l1), some (.inl l2)] [] := by
    intro n12
    induction n12 with
    | zero => intro σ l1 l2 h; exact no_e h
    | succ n12 ih12 =>
      intro σ l1 l2 h
      have h : fX10_takeBest_B12  (fX10_takeBest_L12  n12) σ l1 l2 = some (r, τ) := h
      refine r_iload_n C dX10_takeBest_12 rfl ?_
      refine r_bipush C bp_10 dX10_takeBest_13 ?_
      refine r_ic_ge C (tgt := 36) h (by decide) dX10_takeBest_15 (fun hc h => ?_) (fun hc h => ?_)
      · refine r_aload_n C dX10_takeBest_36 rfl ?_
        refine r_aload_n C dX10_takeBest_37 rfl ?_
        refine r_getI C ck_10 f_124_14 (by decide) fl_X10_150 rfl dX10_takeBest_38 ?_
        refine r_putI C ck_10 f_124_13 (by decide) fl_X10_147 rfl rfl rfl rfl rfl dX10_takeBest_41 h (fun σ7 h => ?_)
        refine r_iload_n C dX10_takeBest_44 rfl ?_
        refine r_aload_n C dX10_takeBest_45 rfl ?_
        refine r_getI C ck_10 f_124_13 (by decide) fl_X10_147 rfl dX10_takeBest_46 ?_
        refine r_isub C dX10_takeBest_49 ?_
        exact r_iret C rfl (Nat.le_of_ble_eq_true rfl) dX10_takeBest_50 (re_i h)
      · refine r_aload_n C dX10_takeBest_18 rfl ?_
        refine r_getR C ck_10 f_124_2 (by decide) fl_X10_13 rfl dX10_takeBest_19 ?_
        refine r_iload_n C dX10_takeBest_22 rfl ?_
        refine r_aload_n C dX10_takeBest_23 rfl ?_
        refine r_getR C ck_10 f_124_10 (by decide) fl_X10_31 rfl dX10_takeBest_24 ?_
        refine r_iload_n C dX10_takeBest_27 rfl ?_
        obtain ⟨hi, h⟩ := ck_e h
        refine r_iald C i_132 hi dX10_takeBest_28 ?_
        obtain ⟨hi, h⟩ := ck_e h
        refine r_iast C i_126 hi dX10_takeBest_29 h (fun σ8 h => ?_)
        refine r_iinc C ic_1 (by decide) dX10_takeBest_30 rfl ?_
        refine r_goto C (tgt := 12) (by decide) dX10_takeBest_33 ?_
        exact ih12 _ _ _ h
  refine r_aload_n C dX10_takeBest_0 rfl ?_
  refine r_iconst C ic_0 dX10_takeBest_1 ?_
  refine r_putI C ck_10 f_124_0 (by decide) fl_X10_117 rfl rfl rfl rfl rfl dX10_takeBest_2 h (fun σ9 h => ?_)
  refine r_aload_n C dX10_takeBest_5 rfl ?_
  refine r_getI C ck_10 f_124_13 (by decide) fl_X10_147 rfl dX10_takeBest_6 ?_
  refine r_istore_n C (by decide) dX10_takeBest_9 ?_
  refine r_iconst C ic_0 dX10_takeBest_10 ?_
  refine r_istore_n C (by decide) dX10_takeBest_11 ?_
  exact L12 FU _ _ _ h
set_option maxHeartbeats 4000000 in
set_option maxRecDepth 100000 in
theorem mX10_findThen {l : Launch} {D : va_G} {ad : Nat → Nat} {cy : Nat → ClassId} (hl : l.stackTraces = false) (hI : Inj ad)   {σ τ : Mem} {a1 a2 a3 a4 : Int32} (h : fX10_findThen σ a1 a2 a3 a4 = some τ) : Co l D ad cy yX10_findThen cX10_findThen 6 (Option.none : Option Jvm.ClassFile.FieldType) 1 100 0 [.ref (ad 124), .int a1, .int a2, .int a3, .int a4] σ (zv) τ := by
  refine co_of (av := [.inr 124, .inl a1, .inl a2, .inl a3, .inl a4]) hl hI (by decide +kernel) (Nat.le_of_ble_eq_true rfl) [some (.inr 124), some (.inl a1), some (.inl a2), some (.inl a3), some (.inl a4), none] rfl (fun V C => ?_)
  have C : Rl l D ad cy RX10 cX10_findThen 6 (Option.none : Option Jvm.ClassFile.FieldType) 1 100 0 (zv) τ V := C
  have L114 : ∀ (σ : Mem) (l1 l2 l3 l4 : Int32), fX10_findThen_L114   σ l1 l2 l3 l4 = some τ → V 0 σ 114 [some (.inr 124), some (.inl l1), some (.inl l2), some (.inl l3), some (.inl l4), none] [] := by
    intro  σ l1 l2 l3 l4 h
    refine r_iload_n C dX10_findThen_114 rfl ?_
    refine r_iconst C ic_3 dX10_findThen_115 ?_
    refine r_ic_ne C (tgt := 157) h (by decide) dX10_findThen_116 (fun hc h => ?_) (fun hc h => ?_)
    · exact r_vret C rfl (Nat.le_of_ble_eq_true rfl) dX10_findThen_157 (re_v h)
    · refine r_aload_n C dX10_findThen_119 rfl ?_
      refine r_getR C ck_10 f_124_37 (by decide) fl_X10_80 rfl dX10_findThen_120 ?_
      refine r_iload_n C dX10_findThen_123 rfl ?_
      refine r_aload_n C dX10_findThen_124 rfl ?_
      refine r_getR C ck_10 f_124_2 (by decide) fl_X10_13 rfl dX10_findThen_125 ?_
      refine r_iload_n C dX10_findThen_128 rfl ?_
      obtain ⟨hi, h⟩ := ck_e h
      refine r_iald C i_126 hi dX10_findThen_129 ?_
      obtain ⟨hi, h⟩ := ck_e h
      refine r_iast C i_144 hi dX10_findThen_130 h (fun σ17 h => ?_)
      refine r_aload_n C dX10_findThen_131 rfl ?_
      refine r_getR C ck_10 f_124_37 (by decide) fl_X10_80 rfl dX10_findThen_132 ?_
      refine r_iload C dX10_findThen_135 rfl ?_
      refine r_aload_n C dX10_findThen_137 rfl ?_
      refine r_getR C ck_10 f_124_2 (by decide) fl_X10_13 rfl dX10_findThen_138 ?_
      refine r_iload_n C dX10_findThen_141 rfl ?_
      obtain ⟨hi, h⟩ := ck_e h
      refine r_iald C i_126 hi dX10_findThen_142 ?_
      obtain ⟨hi, h⟩ := ck_e h
      refine r_iast C i_144 hi dX10_findThen_143 h (fun σ18 h => ?_)
      refine r_aload_n C dX10_findThen_144 rfl ?_
      refine r_getR C ck_10 f_124_37 (by decide) fl_X10_80 rfl dX10_findThen_145 ?_
      refine r_iload_n C dX10_findThen_148 rfl ?_
      refine r_aload_n C dX10_findThen_149 rfl ?_
      refine r_getR C ck_10 f_124_2 (by decide) fl_X10_13 rfl dX10_findThen_150 ?_
      refine r_iload C dX10_findThen_153 rfl ?_
      obtain ⟨hi, h⟩ := ck_e h
      refine r_iald C i_126 hi dX10_findThen_155 ?_
      obtain ⟨hi, h⟩ := ck_e h
      refine r_iast C i_144 hi dX10_findThen_156 h (fun σ19 h => ?_)
      exact r_vret C rfl (Nat.le_of_ble_eq_true rfl) dX10_findThen_157 (re_v h)
  have L105 : ∀ (σ : Mem) (l1 l2 l3 l4 s1 s2 s3 : Int32), fX10_findThen_L105   σ l1 l2 l3 l4 s1 s2 s3 = some τ → V 0 σ 105 [some (.inr 124), some (.inl l1), some (.inl l2), some (.inl l3), some (.inl l4), none] [.int s3, .int s2, .int s1, .ref (ad 144)] := by
    intro  σ l1 l2 l3 l4 s1 s2 s3 h
    refine r_iadd C dX10_findThen_105 ?_
    refine r_aload_n C dX10_findThen_106 rfl ?_
    refine r_getR C ck_10 f_124_1 (by decide) fl_X10_7 rfl dX10_findThen_107 ?_
    refine r_iload_n C dX10_findThen_110 rfl ?_
    obtain ⟨hi, h⟩ := ck_e h
    refine r_iald C i_125 hi dX10_findThen_111 ?_
    obtain ⟨hy, h⟩ := ckn_e h
    refine r_irem C dX10_findThen_112 hy ?_
    obtain ⟨hi, h⟩ := ck_e h
    refine r_iast C i_144 hi dX10_findThen_113 h (fun σ20 h => ?_)
    exact L114 _ _ _ _ _ h
  have L72 : ∀ (σ : Mem) (l1 l2 l3 l4 : Int32), fX10_findThen_L72   σ l1 l2 l3 l4 = some τ → V 0 σ 72 [some (.inr 124), some (.inl l1), some (.inl l2), some (.inl l3), some (.inl l4), none] [] := by
    intro  σ l1 l2 l3 l4 h
    refine r_iload_n C dX10_findThen_72 rfl ?_
    refine r_iconst C ic_2 dX10_findThen_73 ?_
    refine r_ic_ne C (tgt := 114) h (by decide) dX10_findThen_74 (fun hc h => ?_) (fun hc h => ?_)
    · exact L114 _ _ _ _ _ h
    · refine r_aload_n C dX10_findThen_77 rfl ?_
      refine r_getR C ck_10 f_124_37 (by decide) fl_X10_80 rfl dX10_findThen_78 ?_
      refine r_iload_n C dX10_findThen_81 rfl ?_
      refine r_aload_n C dX10_findThen_82 rfl ?_
      refine r_getR C ck_10 f_124_2 (by decide) fl_X10_13 rfl dX10_findThen_83 ?_
      refine r_iload_n C dX10_findThen_86 rfl ?_
      obtain ⟨hi, h⟩ := ck_e h
      refine r_iald C i_126 hi dX10_findThen_87 ?_
      refine r_iload_n C dX10_findThen_88 rfl ?_
      refine r_iconst C ic_1 dX10_findThen_89 ?_
      refine r_ic_ne C (tgt := 97) h (by decide) dX10_findThen_90 (fun hc h => ?_) (fun hc h => ?_)
      · refine r_aload_n C dX10_findThen_97 rfl ?_
        refine r_getR C ck_10 f_124_1 (by decide) fl_X10_7 rfl dX10_findThen_98 ?_
        refine r_iload_n C dX10_findThen_101 rfl ?_
        obtain ⟨hi, h⟩ := ck_e h
        refine r_iald C i_125 hi dX10_findThen_102 ?_
        refine r_iconst C ic_1 dX10_findThen_103 ?_
        refine r_isub C dX10_findThen_104 ?_
        exact L105 _ _ _ _ _ _ _ _ h
      · refine r_iconst C ic_1 dX10_findThen_93 ?_
        refine r_goto C (tgt := 105) (by decide) dX10_findThen_94 ?_
        exact L105 _ _ _ _ _ _ _ _ h
  have L43 : ∀ (σ : Mem) (l1 l2 l3 l4 : Int32), fX10_findThen_L43   σ l1 l2 l3 l4 = some τ → V 0 σ 43 [some (.inr 124), some (.inl l1), some (.inl l2), some (.inl l3), some (.inl l4), none] [] := by
    intro  σ l1 l2 l3 l4 h
    refine r_iload_n C dX10_findThen_43 rfl ?_
    refine r_iconst C ic_1 dX10_findThen_44 ?_
    refine r_ic_ne C (tgt := 72) h (by decide) dX10_findThen_45 (fun hc h => ?_) (fun hc h => ?_)
    · exact L72 _ _ _ _ _ h
    · refine r_aload_n C dX10_findThen_48 rfl ?_
      refine r_getR C ck_10 f_124_37 (by decide) fl_X10_80 rfl dX10_findThen_49 ?_
      refine r_iload_n C dX10_findThen_52 rfl ?_
      refine r_aload_n C dX10_findThen_53 rfl ?_
      refine r_getR C ck_10 f_124_2 (by decide) fl_X10_13 rfl dX10_findThen_54 ?_
      refine r_iload_n C dX10_findThen_57 rfl ?_
      obtain ⟨hi, h⟩ := ck_e h
      refine r_iald C i_126 hi dX10_findThen_58 ?_
      obtain ⟨hi, h⟩ := ck_e h
      refine r_iast C i_144 hi dX10_findThen_59 h (fun σ21 h => ?_)
      refine r_aload_n C dX10_findThen_60 rfl ?_
      refine r_getR C ck_10 f_124_37 (by decide) fl_X10_80 rfl dX10_findThen_61 ?_
      refine r_iload_n C dX10_findThen_64 rfl ?_
      refine r_aload_n C dX10_findThen_65 rfl ?_
      refine r_getR C ck_10 f_124_2 (by decide) fl_X10_13 rfl dX10_findThen_66 ?_
      refine r_iload_n C dX10_findThen_69 rfl ?_
      obtain ⟨hi, h⟩ := ck_e h
      refine r_iald C i_126 hi dX10_findThen_70 ?_
      obtain ⟨hi, h⟩ := ck_e h
      refine r_iast C i_144 hi dX10_findThen_71 h (fun σ22 h => ?_)
      exact L72 _ _ _ _ _ h
  have L3 : ∀ (n : Nat) (σ : Mem) (l1 l2 l3 l4 l5 : Int32), fX10_findThen_L3  n σ l1 l2 l3 l4 l5 = some τ → V 0 σ 3 [some (.inr 124), some (.inl l1), some (.inl l2), some (.inl l3), some (.inl l4), some (.inl l5)] [] := by
    intro n3
    induction n3 with
    | zero => intro σ l1 l2 l3 l4 l5 h; exact no_e h
    | succ n3 ih3 =>
      intro σ l1 l2 l3 l4 l5 h
      have h : fX10_findThen_B3  (fX10_findThen_L3  n3) σ l1 l2 l3 l4 l5 = some τ := h
      refine r_iload C dX10_findThen_3 rfl ?_
      refine r_aload_n C dX10_findThen_5 rfl ?_
      refine r_getI C ck_10 f_124_7 (by decide) fl_X10_120 rfl dX10_findThen_6 ?_
      refine r_ic_ge C (tgt := 32) h (by decide) dX10_findThen_9 (fun hc h => ?_) (fun hc h => ?_)
      · refine r_iload_n C dX10_findThen_32 rfl ?_
        refine r_if_ne C (tgt := 43) h (by decide) dX10_findThen_33 (fun hc h => ?_) (fun hc h => ?_)
        · refine r_weak C [some (.inr 124), some (.inl l1), some (.inl l2), some (.inl l3), some (.inl l4), none] ⟨rfl, ⟨rfl, ⟨rfl, ⟨rfl, ⟨rfl, trivial⟩⟩⟩⟩⟩ ?_
          exact L43 _ _ _ _ _ h
        · refine r_aload_n C dX10_findThen_36 rfl ?_
          refine r_getR C ck_10 f_124_37 (by decide) fl_X10_80 rfl dX10_findThen_37 ?_
          refine r_iload_n C dX10_findThen_40 rfl ?_
          refine r_iload_n C dX10_findThen_41 rfl ?_
          obtain ⟨hi, h⟩ := ck_e h
          refine r_iast C i_144 hi dX10_findThen_42 h (fun σ23 h => ?_)
          refine r_weak C [some (.inr 124), some (.inl l1), some (.inl l2), some (.inl l3), some (.inl l4), none] ⟨rfl, ⟨rfl, ⟨rfl, ⟨rfl, ⟨rfl, trivial⟩⟩⟩⟩⟩ ?_
          exact L43 _ _ _ _ _ h
      · refine r_aload_n C dX10_findThen_12 rfl ?_
        refine r_getR C ck_10 f_124_37 (by decide) fl_X10_80 rfl dX10_findThen_13 ?_
        refine r_iload C dX10_findThen_16 rfl ?_
        refine r_aload_n C dX10_findThen_18 rfl ?_
        refine r_getR C ck_10 f_124_2 (by decide) fl_X10_13 rfl dX10_findThen_19 ?_
        refine r_iload C dX10_findThen_22 rfl ?_
        obtain ⟨hi, h⟩ := ck_e h
        refine r_iald C i_126 hi dX10_findThen_24 ?_
        obtain ⟨hi, h⟩ := ck_e h
        refine r_iast C i_144 hi dX10_findThen_25 h (fun σ24 h => ?_)
        refine r_iinc C ic_1 (by decide) dX10_findThen_26 rfl ?_
        refine r_goto C (tgt := 3) (by decide) dX10_findThen_29 ?_
        exact ih3 _ _ _ _ _ _ h
  refine r_iconst C ic_0 dX10_findThen_0 ?_
  refine r_istore C (by decide) dX10_findThen_1 ?_
  exact L3 FU _ _ _ _ _ _ h
set_option maxHeartbeats 4000000 in
set_option maxRecDepth 100000 in
theorem mX10_isForbiddenNow {l : Launch} {D : va_G} {ad : Nat → Nat} {cy : Nat → ClassId} (hl : l.stackTraces = false) (hI : Inj ad)   {σ τ : Mem} {a1 a2 : Int32} {r : Int32} (h : fX10_isForbiddenNow σ a1 a2 = some (r, τ)) : Co l D ad cy yX10_isForbiddenNow cX10_isForbiddenNow 3 (Option.some Jvm.ClassFile.FieldType.boolean) 1 100 0 [.ref (ad 124), .int a1, .int a2] σ (zi r) τ := by
  refine co_of (av := [.inr 124, .inl a1, .inl a2]) hl hI (by decide +kernel) (Nat.le_of_ble_eq_true rfl) [some (.inr 124), some (.inl a1), some (.inl a2)] rfl (fun V C => ?_)
  have C : Rl l D ad cy RX10 cX10_isForbiddenNow 3 (Option.some Jvm.ClassFile.FieldType.boolean) 1 100 0 (zi r) τ V := C
  refine r_aload_n C dX10_isForbiddenNow_0 rfl ?_
  refine r_getR C ck_10 f_124_11 (by decide) fl_X10_34 rfl dX10_isForbiddenNow_1 ?_
  refine r_bipush C bp_8 dX10_isForbiddenNow_4 ?_
  refine r_iload_n C dX10_isForbiddenNow_6 rfl ?_
  refine r_imul C dX10_isForbiddenNow_7 ?_
  refine r_iload_n C dX10_isForbiddenNow_8 rfl ?_
  refine r_iadd C dX10_isForbiddenNow_9 ?_
  obtain ⟨hi, h⟩ := ck_e h
  refine r_iald C i_133 hi dX10_isForbiddenNow_10 ?_
  refine r_aload_n C dX10_isForbiddenNow_11 rfl ?_
  refine r_getI C ck_10 f_124_15 (by decide) fl_X10_153 rfl dX10_isForbiddenNow_12 ?_
  refine r_ic_lt C (tgt := 22) h (by decide) dX10_isForbiddenNow_15 (fun hc h => ?_) (fun hc h => ?_)
  · refine r_iconst C ic_0 dX10_isForbiddenNow_22 ?_
    exact r_zret C rfl (Nat.le_of_ble_eq_true rfl) (Or.inl rfl) dX10_isForbiddenNow_23 (re_i h)
  · refine r_iconst C ic_1 dX10_isForbiddenNow_18 ?_
    refine r_goto C (tgt := 23) (by decide) dX10_isForbiddenNow_19 ?_
    exact r_zret C rfl (Nat.le_of_ble_eq_true rfl) (Or.inr rfl) dX10_isForbiddenNow_23 (re_i h)
set_option maxHeartbeats 4000000 in
set_option maxRecDepth 100000 in
theorem mX10_lists {l : Launch} {D : va_G} {ad : Nat → Nat} {cy : Nat → ClassId} (hl : l.stackTraces = false) (hI : Inj ad)   {σ τ : Mem} {a1 a2 a3 a4 : Int32} (h : fX10_lists σ a1 a2 a3 a4 = some τ) : Co l D ad cy yX10_lists cX10_lists 7 (Option.none : Option Jvm.ClassFile.FieldType) 5 193 0 [.ref (ad 124), .int a1, .int a2, .int a3, .int a4] σ (zv) τ := by
  refine co_of (av := [.inr 124, .inl a1, .inl a2, .inl a3, .inl a4]) hl hI (by decide +kernel) (Nat.le_of_ble_eq_true rfl) [some (.inr 124), some (.inl a1), some (.inl a2), some (.inl a3), some (.inl a4), none, none] rfl (fun V C => ?_)
  have C : Rl l D ad cy RX10 cX10_lists 7 (Option.none : Option Jvm.ClassFile.FieldType) 5 193 0 (zv) τ V := C
  have L167 : ∀ (σ : Mem) (s1 s2 : Int32), fX10_lists_L167   σ s1 s2 = some τ → V 0 σ 167 [some (.inr 124), none, none, none, none, none, none] [.int s2, .int s1, .ref (ad 145)] := by
    intro  σ s1 s2 h
    obtain ⟨hi, h⟩ := ck_e h
    refine r_zast C i_145 hi dX10_lists_167 h (fun σ21 h => ?_)
    refine r_aload_n C dX10_lists_168 rfl ?_
    refine r_dup C rfl dX10_lists_169 ?_
    refine r_getI C ck_10 f_124_39 (by decide) fl_X10_245 rfl dX10_lists_170 ?_
    refine r_iconst C ic_1 dX10_lists_173 ?_
    refine r_iadd C dX10_lists_174 ?_
    refine r_putI C ck_10 f_124_39 (by decide) fl_X10_245 rfl rfl rfl rfl rfl dX10_lists_175 h (fun σ22 h => ?_)
    exact r_vret C rfl (Nat.le_of_ble_eq_true rfl) dX10_lists_178 (re_v h)
  have L166 : ∀ (σ : Mem) (s1 : Int32), fX10_lists_L166   σ s1 = some τ → V 0 σ 166 [some (.inr 124), none, none, none, none, none, none] [.int s1, .ref (ad 145)] := by
    intro  σ s1 h
    refine r_iconst C ic_0 dX10_lists_166 ?_
    exact L167 _ _ _ h
  have L73 : ∀ (n : Nat) (σ : Mem) (l5 l6 : Int32), fX10_lists_L73  n σ l5 l6 = some τ → V 0 σ 73 [some (.inr 124), none, none, none, none, some (.inl l5), some (.inl l6)] [] := by
    intro n73
    induction n73 with
    | zero => intro σ l5 l6 h; exact no_e h
    | succ n73 ih73 =>
      have L125 : ∀ (σ : Mem) (l6 s0 : Int32), fX10_lists_L125 (fX10_lists_L73  n73)  σ l6 s0 = some τ → V 0 σ 125 [some (.inr 124), none, none, none, none, none, some (.inl l6)] [.int s0] := by
        intro  σ l6 s0 h
        refine r_istore C (by decide) dX10_lists_125 ?_
        refine r_iinc C ic_1 (by decide) dX10_lists_127 rfl ?_
        refine r_goto C (tgt := 73) (by decide) dX10_lists_130 ?_
        exact ih73 _ _ _ h
      have L124 : ∀ (σ : Mem) (l6 : Int32), fX10_lists_L124 (fX10_lists_L73  n73)  σ l6 = some τ → V 0 σ 124 [some (.inr 124), none, none, none, none, none, some (.inl l6)] [] := by
        intro  σ l6 h
        refine r_iconst C ic_0 dX10_lists_124 ?_
        exact L125 _ _ _ h
      have L120 : ∀ (σ : Mem) (l6 : Int32), fX10_lists_L120 (fX10_lists_L73  n73)  σ l6 = some τ → V 0 σ 120 [some (.inr 124), none, none, none, none, none, some (.inl l6)] [] := by
        intro  σ l6 h
        refine r_iconst C ic_1 dX10_lists_120 ?_
        refine r_goto C (tgt := 125) (by decide) dX10_lists_121 ?_
        exact L125 _ _ _ h
      intro σ l5 l6 h
      have h : fX10_lists_B73  (fX10_lists_L73  n73) σ l5 l6 = some τ := h
      refine r_iload C dX10_lists_73 rfl ?_
      refine r_aload_n C dX10_lists_75 rfl ?_
      refine r_getI C ck_10 f_124_7 (by decide) fl_X10_120 rfl dX10_lists_76 ?_
      refine r_ic_ge C (tgt := 133) h (by decide) dX10_lists_79 (fun hc h => ?_) (fun hc h => ?_)
      · refine r_aload_n C dX10_lists_133 rfl ?_
        refine r_getR C ck_10 f_124_38 (by decide) fl_X10_83 rfl dX10_lists_134 ?_
        refine r_aload_n C dX10_lists_137 rfl ?_
        refine r_getI C ck_10 f_124_39 (by decide) fl_X10_245 rfl dX10_lists_138 ?_
        refine r_iload C dX10_lists_141 rfl ?_
        refine r_if_eq C (tgt := 166) h (by decide) dX10_lists_143 (fun hc h => ?_) (fun hc h => ?_)
        · refine r_weak C [some (.inr 124), none, none, none, none, none, none] ⟨rfl, trivial⟩ ?_
          exact L166 _ _ h
        · refine r_aload_n C dX10_lists_146 rfl ?_
          refine r_getR C ck_10 f_124_36 (by decide) fl_X10_77 rfl dX10_lists_147 ?_
          refine r_aload_n C dX10_lists_150 rfl ?_
          refine r_getI C ck_10 f_124_39 (by decide) fl_X10_245 rfl dX10_lists_151 ?_
          obtain ⟨hi, h⟩ := ck_e h
          refine r_iald C i_143 hi dX10_lists_154 ?_
          refine r_aload_n C dX10_lists_155 rfl ?_
          refine r_getI C ck_10 f_124_14 (by decide) fl_X10_150 rfl dX10_lists_156 ?_
          refine r_ic_lt C (tgt := 166) h (by decide) dX10_lists_159 (fun hc h => ?_) (fun hc h => ?_)
          · refine r_weak C [some (.inr 124), none, none, none, none, none, none] ⟨rfl, trivial⟩ ?_
            exact L166 _ _ h
          · refine r_iconst C ic_1 dX10_lists_162 ?_
            refine r_goto C (tgt := 167) (by decide) dX10_lists_163 ?_
            refine r_weak C [some (.inr 124), none, none, none, none, none, none] ⟨rfl, trivial⟩ ?_
            exact L167 _ _ _ h
      · refine r_iload C dX10_lists_82 rfl ?_
        refine r_if_ne C (tgt := 120) h (by decide) dX10_lists_84 (fun hc h => ?_) (fun hc h => ?_)
        · refine r_weak C [some (.inr 124), none, none, none, none, none, some (.inl l6)] ⟨rfl, ⟨rfl, trivial⟩⟩ ?_
          exact L120 _ _ h
        · refine r_aload_n C dX10_lists_87 rfl ?_
          refine r_getR C ck_10 f_124_37 (by decide) fl_X10_80 rfl dX10_lists_88 ?_
          refine r_iload C dX10_lists_91 rfl ?_
          obtain ⟨hi, h⟩ := ck_e h
          refine r_iald C i_144 hi dX10_lists_93 ?_
          refine r_aload_n C dX10_lists_94 rfl ?_
          refine r_getR C ck_10 f_124_2 (by decide) fl_X10_13 rfl dX10_lists_95 ?_
          refine r_iload C dX10_lists_98 rfl ?_
          obtain ⟨hi, h⟩ := ck_e h
          refine r_iald C i_126 hi dX10_lists_100 ?_
          refine r_ic_eq C (tgt := 124) h (by decide) dX10_lists_101 (fun hc h => ?_) (fun hc h => ?_)
          · refine r_weak C [some (.inr 124), none, none, none, none, none, some (.inl l6)] ⟨rfl, ⟨rfl, trivial⟩⟩ ?_
            exact L124 _ _ h
          · refine r_aload_n C dX10_lists_104 rfl ?_
            refine r_iload C dX10_lists_105 rfl ?_
            refine r_aload_n C dX10_lists_107 rfl ?_
            refine r_getR C ck_10 f_124_37 (by decide) fl_X10_80 rfl dX10_lists_108 ?_
            refine r_iload C dX10_lists_111 rfl ?_
            obtain ⟨hi, h⟩ := ck_e h
            refine r_iald C i_144 hi dX10_lists_113 ?_
            refine bd_e h (fun v23 σ23 hf23 h => ?_)
            refine r_callVi C g_X10_isForbiddenNow hc_10 o_124 ml_X10_248 (mX10_isForbiddenNow hl hI  hf23) rfl rfl (by exact Nat.le_of_ble_eq_true rfl) ⟨Nat.le_of_ble_eq_true rfl, Nat.le_of_ble_eq_true rfl, Nat.le_of_ble_eq_true rfl⟩ dX10_lists_114 ?_
            refine r_if_eq C (tgt := 124) h (by decide) dX10_lists_117 (fun hc h => ?_) (fun hc h => ?_)
            · refine r_weak C [some (.inr 124), none, none, none, none, none, some (.inl l6)] ⟨rfl, ⟨rfl, trivial⟩⟩ ?_
              exact L124 _ _ h
            · refine r_weak C [some (.inr 124), none, none, none, none, none, some (.inl l6)] ⟨rfl, ⟨rfl, trivial⟩⟩ ?_
              exact L120 _ _ h
  refine r_aload_n C dX10_lists_0 rfl ?_
  refine r_iload_n C dX10_lists_1 rfl ?_
  refine r_iload_n C dX10_lists_2 rfl ?_
  refine r_iload_n C dX10_lists_3 rfl ?_
  refine r_iload C dX10_lists_4 rfl ?_
  refine bv_e h (fun σ24 hf24 h => ?_)
  refine r_callVv C g_X10_findThen hc_10 o_124 ml_X10_242 (mX10_findThen hl hI  hf24) rfl rfl (by exact Nat.le_of_ble_eq_true rfl) ⟨Nat.le_of_ble_eq_true rfl, Nat.le_of_ble_eq_true rfl, Nat.le_of_ble_eq_true rfl⟩ dX10_lists_6 ?_
  refine r_aload_n C dX10_lists_9 rfl ?_
  refine r_getR C ck_10 f_124_32 (by decide) fl_X10_65 rfl dX10_lists_10 ?_
  refine r_aload_n C dX10_lists_13 rfl ?_
  refine r_getI C ck_10 f_124_39 (by decide) fl_X10_245 rfl dX10_lists_14 ?_
  refine r_iload_n C dX10_lists_17 rfl ?_
  obtain ⟨hi, h⟩ := ck_e h
  refine r_iast C i_139 hi dX10_lists_18 h (fun σ25 h => ?_)
  refine r_aload_n C dX10_lists_19 rfl ?_
  refine r_getR C ck_10 f_124_33 (by decide) fl_X10_68 rfl dX10_lists_20 ?_
  refine r_aload_n C dX10_lists_23 rfl ?_
  refine r_getI C ck_10 f_124_39 (by decide) fl_X10_245 rfl dX10_lists_24 ?_
  refine r_iload_n C dX10_lists_27 rfl ?_
  obtain ⟨hi, h⟩ := ck_e h
  refine r_iast C i_140 hi dX10_lists_28 h (fun σ26 h => ?_)
  refine r_aload_n C dX10_lists_29 rfl ?_
  refine r_getR C ck_10 f_124_34 (by decide) fl_X10_71 rfl dX10_lists_30 ?_
  refine r_aload_n C dX10_lists_33 rfl ?_
  refine r_getI C ck_10 f_124_39 (by decide) fl_X10_245 rfl dX10_lists_34 ?_
  refine r_iload_n C dX10_lists_37 rfl ?_
  obtain ⟨hi, h⟩ := ck_e h
  refine r_iast C i_141 hi dX10_lists_38 h (fun σ27 h => ?_)
  refine r_aload_n C dX10_lists_39 rfl ?_
  refine r_getR C ck_10 f_124_35 (by decide) fl_X10_74 rfl dX10_lists_40 ?_
  refine r_aload_n C dX10_lists_43 rfl ?_
  refine r_getI C ck_10 f_124_39 (by decide) fl_X10_245 rfl dX10_lists_44 ?_
  refine r_iload C dX10_lists_47 rfl ?_
  obtain ⟨hi, h⟩ := ck_e h
  refine r_iast C i_142 hi dX10_lists_49 h (fun σ28 h => ?_)
  refine r_aload_n C dX10_lists_50 rfl ?_
  refine r_getR C ck_10 f_124_36 (by decide) fl_X10_77 rfl dX10_lists_51 ?_
  refine r_aload_n C dX10_lists_54 rfl ?_
  refine r_getI C ck_10 f_124_39 (by decide) fl_X10_245 rfl dX10_lists_55 ?_
  refine r_aload_n C dX10_lists_58 rfl ?_
  refine r_aload_n C dX10_lists_59 rfl ?_
  refine r_getR C ck_10 f_124_37 (by decide) fl_X10_80 rfl dX10_lists_60 ?_
  refine bd_e h (fun v29 σ29 hf29 h => ?_)
  refine r_callVi C g_X10_costOf hc_10 o_124 ml_X10_159 (mX10_costOf hl hI i_144 hf29) rfl rfl (by exact Nat.le_of_ble_eq_true rfl) ⟨Nat.le_of_ble_eq_true rfl, Nat.le_of_ble_eq_true rfl, Nat.le_of_ble_eq_true rfl⟩ dX10_lists_63 ?_
  obtain ⟨hi, h⟩ := ck_e h
  refine r_iast C i_143 hi dX10_lists_66 h (fun σ30 h => ?_)
  refine r_iconst C ic_0 dX10_lists_67 ?_
  refine r_istore C (by decide) dX10_lists_68 ?_
  refine r_iconst C ic_0 dX10_lists_70 ?_
  refine r_istore C (by decide) dX10_lists_71 ?_
  refine r_weak C [some (.inr 124), none, none, none, none, some (.inl (0 : Int32)), some (.inl (0 : Int32))] ⟨rfl, ⟨rfl, ⟨rfl, trivial⟩⟩⟩ ?_
  exact L73 FU _ _ _ h
set_option maxHeartbeats 4000000 in
set_option maxRecDepth 100000 in
theorem mX10_listsSets {l : Launch} {D : va_G} {ad : Nat → Nat} {cy : Nat → ClassId} (hl : l.stackTraces = false) (hI : Inj ad)   {σ τ : Mem} {a1 : Int32} (h : fX10_listsSets σ a1 = some τ) : Co l D ad cy yX10_listsSets cX10_listsSets 3 (Option.none : Option Jvm.ClassFile.FieldType) 6 219 0 [.ref (ad 124), .int a1] σ (zv) τ := by
  refine co_of (av := [.inr 124, .inl a1]) hl hI (by decide +kernel) (Nat.le_of_ble_eq_true rfl) [some (.inr 124), some (.inl a1), none] rfl (fun V C => ?_)
  have C : Rl l D ad cy RX10 cX10_listsSets 3 (Option.none : Option Jvm.ClassFile.FieldType) 6 219 0 (zv) τ V := C
  have L2 : ∀ (n : Nat) (σ : Mem) (l1 l2 : Int32), fX10_listsSets_L2  n σ l1 l2 = some τ → V 0 σ 2 [some (.inr 124), some (.inl l1), some (.inl l2)] [] := by
    intro n2
    induction n2 with
    | zero => intro σ l1 l2 h; exact no_e h
    | succ n2 ih2 =>
      have L30 : ∀ (σ : Mem) (l1 l2 : Int32), fX10_listsSets_L30 (fX10_listsSets_L2  n2)  σ l1 l2 = some τ → V 0 σ 30 [some (.inr 124), some (.inl l1), some (.inl l2)] [] := by
        intro  σ l1 l2 h
        refine r_iinc C ic_1 (by decide) dX10_listsSets_30 rfl ?_
        refine r_goto C (tgt := 2) (by decide) dX10_listsSets_33 ?_
        exact ih2 _ _ _ h
      intro σ l1 l2 h
      have h : fX10_listsSets_B2  (fX10_listsSets_L2  n2) σ l1 l2 = some τ := h
      refine r_iload_n C dX10_listsSets_2 rfl ?_
      refine r_aload_n C dX10_listsSets_3 rfl ?_
      refine r_getR C ck_10 f_124_1 (by decide) fl_X10_7 rfl dX10_listsSets_4 ?_
      refine r_iload_n C dX10_listsSets_7 rfl ?_
      obtain ⟨hi, h⟩ := ck_e h
      refine r_iald C i_125 hi dX10_listsSets_8 ?_
      refine r_ic_ge C (tgt := 36) h (by decide) dX10_listsSets_9 (fun hc h => ?_) (fun hc h => ?_)
      · exact r_vret C rfl (Nat.le_of_ble_eq_true rfl) dX10_listsSets_36 (re_v h)
      · refine r_iload_n C dX10_listsSets_12 rfl ?_
        refine r_aload_n C dX10_listsSets_13 rfl ?_
        refine r_getR C ck_10 f_124_2 (by decide) fl_X10_13 rfl dX10_listsSets_14 ?_
        refine r_iload_n C dX10_listsSets_17 rfl ?_
        obtain ⟨hi, h⟩ := ck_e h
        refine r_iald C i_126 hi dX10_listsSets_18 ?_
        refine r_ic_eq C (tgt := 30) h (by decide) dX10_listsSets_19 (fun hc h => ?_) (fun hc h => ?_)
        · exact L30 _ _ _ h
        · refine r_aload_n C dX10_listsSets_22 rfl ?_
          refine r_iconst C ic_0 dX10_listsSets_23 ?_
          refine r_iload_n C dX10_listsSets_24 rfl ?_
          refine r_iload_n C dX10_listsSets_25 rfl ?_
          refine r_iconst C ic_m1 dX10_listsSets_26 ?_
          refine bv_e h (fun σ3 hf3 h => ?_)
          refine r_callVv C g_X10_lists hc_10 o_124 ml_X10_251 (mX10_lists hl hI  hf3) rfl rfl (by exact Nat.le_of_ble_eq_true rfl) ⟨Nat.le_of_ble_eq_true rfl, Nat.le_of_ble_eq_true rfl, Nat.le_of_ble_eq_true rfl⟩ dX10_listsSets_27 ?_
          exact L30 _ _ _ h
  refine r_iconst C ic_0 dX10_listsSets_0 ?_
  refine r_istore_n C (by decide) dX10_listsSets_1 ?_
  exact L2 FU _ _ _ h
set_option maxHeartbeats 4000000 in
set_option maxRecDepth 100000 in
theorem mX10_listsSwaps {l : Launch} {D : va_G} {ad : Nat → Nat} {cy : Nat → ClassId} (hl : l.stackTraces = false) (hI : Inj ad)   {σ τ : Mem} {a1 : Int32} (h : fX10_listsSwaps σ a1 = some τ) : Co l D ad cy yX10_listsSwaps cX10_listsSwaps 3 (Option.none : Option Jvm.ClassFile.FieldType) 6 219 0 [.ref (ad 124), .int a1] σ (zv) τ := by
  refine co_of (av := [.inr 124, .inl a1]) hl hI (by decide +kernel) (Nat.le_of_ble_eq_true rfl) [some (.inr 124), some (.inl a1), none] rfl (fun V C => ?_)
  have C : Rl l D ad cy RX10 cX10_listsSwaps 3 (Option.none : Option Jvm.ClassFile.FieldType) 6 219 0 (zv) τ V := C
  have L4 : ∀ (n : Nat) (σ : Mem) (l1 l2 : Int32), fX10_listsSwaps_L4  n σ l1 l2 = some τ → V 0 σ 4 [some (.inr 124), some (.inl l1), some (.inl l2)] [] := by
    intro n4
    induction n4 with
    | zero => intro σ l1 l2 h; exact no_e h
    | succ n4 ih4 =>
      have L63 : ∀ (σ : Mem) (l1 l2 : Int32), fX10_listsSwaps_L63 (fX10_listsSwaps_L4  n4)  σ l1 l2 = some τ → V 0 σ 63 [some (.inr 124), some (.inl l1), some (.inl l2)] [] := by
        intro  σ l1 l2 h
        refine r_iinc C ic_1 (by decide) dX10_listsSwaps_63 rfl ?_
        refine r_goto C (tgt := 4) (by decide) dX10_listsSwaps_66 ?_
        exact ih4 _ _ _ h
      intro σ l1 l2 h
      have h : fX10_listsSwaps_B4  (fX10_listsSwaps_L4  n4) σ l1 l2 = some τ := h
      refine r_iload_n C dX10_listsSwaps_4 rfl ?_
      refine r_aload_n C dX10_listsSwaps_5 rfl ?_
      refine r_getI C ck_10 f_124_7 (by decide) fl_X10_120 rfl dX10_listsSwaps_6 ?_
      refine r_ic_ge C (tgt := 69) h (by decide) dX10_listsSwaps_9 (fun hc h => ?_) (fun hc h => ?_)
      · exact r_vret C rfl (Nat.le_of_ble_eq_true rfl) dX10_listsSwaps_69 (re_v h)
      · refine r_aload_n C dX10_listsSwaps_12 rfl ?_
        refine r_getR C ck_10 f_124_2 (by decide) fl_X10_13 rfl dX10_listsSwaps_13 ?_
        refine r_iload_n C dX10_listsSwaps_16 rfl ?_
        obtain ⟨hi, h⟩ := ck_e h
        refine r_iald C i_126 hi dX10_listsSwaps_17 ?_
        refine r_aload_n C dX10_listsSwaps_18 rfl ?_
        refine r_getR C ck_10 f_124_2 (by decide) fl_X10_13 rfl dX10_listsSwaps_19 ?_
        refine r_iload_n C dX10_listsSwaps_22 rfl ?_
        obtain ⟨hi, h⟩ := ck_e h
        refine r_iald C i_126 hi dX10_listsSwaps_23 ?_
        refine r_ic_eq C (tgt := 63) h (by decide) dX10_listsSwaps_24 (fun hc h => ?_) (fun hc h => ?_)
        · exact L63 _ _ _ h
        · refine r_aload_n C dX10_listsSwaps_27 rfl ?_
          refine r_iload_n C dX10_listsSwaps_28 rfl ?_
          refine r_aload_n C dX10_listsSwaps_29 rfl ?_
          refine r_getR C ck_10 f_124_2 (by decide) fl_X10_13 rfl dX10_listsSwaps_30 ?_
          refine r_iload_n C dX10_listsSwaps_33 rfl ?_
          obtain ⟨hi, h⟩ := ck_e h
          refine r_iald C i_126 hi dX10_listsSwaps_34 ?_
          refine bd_e h (fun v7 σ7 hf7 h => ?_)
          refine r_callVi C g_X10_isIn hc_10 o_124 ml_X10_231 (mX10_isIn hl hI  hf7) rfl rfl (by exact Nat.le_of_ble_eq_true rfl) ⟨Nat.le_of_ble_eq_true rfl, Nat.le_of_ble_eq_true rfl, Nat.le_of_ble_eq_true rfl⟩ dX10_listsSwaps_35 ?_
          refine r_if_eq C (tgt := 63) h (by decide) dX10_listsSwaps_38 (fun hc h => ?_) (fun hc h => ?_)
          · exact L63 _ _ _ h
          · refine r_aload_n C dX10_listsSwaps_41 rfl ?_
            refine r_iload_n C dX10_listsSwaps_42 rfl ?_
            refine r_aload_n C dX10_listsSwaps_43 rfl ?_
            refine r_getR C ck_10 f_124_2 (by decide) fl_X10_13 rfl dX10_listsSwaps_44 ?_
            refine r_iload_n C dX10_listsSwaps_47 rfl ?_
            obtain ⟨hi, h⟩ := ck_e h
            refine r_iald C i_126 hi dX10_listsSwaps_48 ?_
            refine bd_e h (fun v8 σ8 hf8 h => ?_)
            refine r_callVi C g_X10_isIn hc_10 o_124 ml_X10_231 (mX10_isIn hl hI  hf8) rfl rfl (by exact Nat.le_of_ble_eq_true rfl) ⟨Nat.le_of_ble_eq_true rfl, Nat.le_of_ble_eq_true rfl, Nat.le_of_ble_eq_true rfl⟩ dX10_listsSwaps_49 ?_
            refine r_if_eq C (tgt := 63) h (by decide) dX10_listsSwaps_52 (fun hc h => ?_) (fun hc h => ?_)
            · exact L63 _ _ _ h
            · refine r_aload_n C dX10_listsSwaps_55 rfl ?_
              refine r_iconst C ic_1 dX10_listsSwaps_56 ?_
              refine r_iload_n C dX10_listsSwaps_57 rfl ?_
              refine r_iload_n C dX10_listsSwaps_58 rfl ?_
              refine r_iconst C ic_m1 dX10_listsSwaps_59 ?_
              refine bv_e h (fun σ9 hf9 h => ?_)
              refine r_callVv C g_X10_lists hc_10 o_124 ml_X10_251 (mX10_lists hl hI  hf9) rfl rfl (by exact Nat.le_of_ble_eq_true rfl) ⟨Nat.le_of_ble_eq_true rfl, Nat.le_of_ble_eq_true rfl, Nat.le_of_ble_eq_true rfl⟩ dX10_listsSwaps_60 ?_
              exact L63 _ _ _ h
  refine r_iload_n C dX10_listsSwaps_0 rfl ?_
  refine r_iconst C ic_1 dX10_listsSwaps_1 ?_
  refine r_iadd C dX10_listsSwaps_2 ?_
  refine r_istore_n C (by decide) dX10_listsSwaps_3 ?_
  exact L4 FU _ _ _ h
set_option maxHeartbeats 4000000 in
set_option maxRecDepth 100000 in
theorem mX10_listsRotations {l : Launch} {D : va_G} {ad : Nat → Nat} {cy : Nat → ClassId} (hl : l.stackTraces = false) (hI : Inj ad)   {σ τ : Mem} {a1 : Int32} (h : fX10_listsRotations σ a1 = some τ) : Co l D ad cy yX10_listsRotations cX10_listsRotations 4 (Option.none : Option Jvm.ClassFile.FieldType) 6 219 0 [.ref (ad 124), .int a1] σ (zv) τ := by
  refine co_of (av := [.inr 124, .inl a1]) hl hI (by decide +kernel) (Nat.le_of_ble_eq_true rfl) [some (.inr 124), some (.inl a1), none, none] rfl (fun V C => ?_)
  have C : Rl l D ad cy RX10 cX10_listsRotations 4 (Option.none : Option Jvm.ClassFile.FieldType) 6 219 0 (zv) τ V := C
  have L4 : ∀ (n : Nat) (σ : Mem) (l1 l2 : Int32), fX10_listsRotations_L4  n σ l1 l2 = some τ → V 0 σ 4 [some (.inr 124), some (.inl l1), some (.inl l2), none] [] := by
    intro n4
    induction n4 with
    | zero => intro σ l1 l2 h; exact no_e h
    | succ n4 ih4 =>
      have L16 : ∀ (n : Nat) (σ : Mem) (l1 l2 l3 : Int32), fX10_listsRotations_L16 (fX10_listsRotations_L4  n4) n σ l1 l2 l3 = some τ → V 0 σ 16 [some (.inr 124), some (.inl l1), some (.inl l2), some (.inl l3)] [] := by
        intro n16
        induction n16 with
        | zero => intro σ l1 l2 l3 h; exact no_e h
        | succ n16 ih16 =>
          have L112 : ∀ (σ : Mem) (l1 l2 l3 : Int32), fX10_listsRotations_L112 (fX10_listsRotations_L4  n4) (fX10_listsRotations_L16 (fX10_listsRotations_L4  n4) n16)  σ l1 l2 l3 = some τ → V 0 σ 112 [some (.inr 124), some (.inl l1), some (.inl l2), some (.inl l3)] [] := by
            intro  σ l1 l2 l3 h
            refine r_iinc C ic_1 (by decide) dX10_listsRotations_112 rfl ?_
            refine r_goto C (tgt := 16) (by decide) dX10_listsRotations_115 ?_
            exact ih16 _ _ _ _ h
          have L62 : ∀ (σ : Mem) (l1 l2 l3 : Int32), fX10_listsRotations_L62 (fX10_listsRotations_L4  n4) (fX10_listsRotations_L16 (fX10_listsRotations_L4  n4) n16)  σ l1 l2 l3 = some τ → V 0 σ 62 [some (.inr 124), some (.inl l1), some (.inl l2), some (.inl l3)] [] := by
            intro  σ l1 l2 l3 h
            refine r_aload_n C dX10_listsRotations_62 rfl ?_
            refine r_iload_n C dX10_listsRotations_63 rfl ?_
            refine r_aload_n C dX10_listsRotations_64 rfl ?_
            refine r_getR C ck_10 f_124_2 (by decide) fl_X10_13 rfl dX10_listsRotations_65 ?_
            refine r_iload_n C dX10_listsRotations_68 rfl ?_
            obtain ⟨hi, h⟩ := ck_e h
            refine r_iald C i_126 hi dX10_listsRotations_69 ?_
            refine bd_e h (fun v9 σ9 hf9 h => ?_)
            refine r_callVi C g_X10_isIn hc_10 o_124 ml_X10_231 (mX10_isIn hl hI  hf9) rfl rfl (by exact Nat.le_of_ble_eq_true rfl) ⟨Nat.le_of_ble_eq_true rfl, Nat.le_of_ble_eq_true rfl, Nat.le_of_ble_eq_true rfl⟩ dX10_listsRotations_70 ?_
            refine r_if_eq C (tgt := 112) h (by decide) dX10_listsRotations_73 (fun hc h => ?_) (fun hc h => ?_)
            · exact L112 _ _ _ _ h
            · refine r_aload_n C dX10_listsRotations_76 rfl ?_
              refine r_iload_n C dX10_listsRotations_77 rfl ?_
              refine r_aload_n C dX10_listsRotations_78 rfl ?_
              refine r_getR C ck_10 f_124_2 (by decide) fl_X10_13 rfl dX10_listsRotations_79 ?_
              refine r_iload_n C dX10_listsRotations_82 rfl ?_
              obtain ⟨hi, h⟩ := ck_e h
              refine r_iald C i_126 hi dX10_listsRotations_83 ?_
              refine bd_e h (fun v10 σ10 hf10 h => ?_)
              refine r_callVi C g_X10_isIn hc_10 o_124 ml_X10_231 (mX10_isIn hl hI  hf10) rfl rfl (by exact Nat.le_of_ble_eq_true rfl) ⟨Nat.le_of_ble_eq_true rfl, Nat.le_of_ble_eq_true rfl, Nat.le_of_ble_eq_true rfl⟩ dX10_listsRotations_84 ?_
              refine r_if_eq C (tgt := 112) h (by decide) dX10_listsRotations_87 (fun hc h => ?_) (fun hc h => ?_)
              · exact L112 _ _ _ _ h
              · refine r_aload_n C dX10_listsRotations_90 rfl ?_
                refine r_iload_n C dX10_listsRotations_91 rfl ?_
                refine r_aload_n C dX10_listsRotations_92 rfl ?_
                refine r_getR C ck_10 f_124_2 (by decide) fl_X10_13 rfl dX10_listsRotations_93 ?_
                refine r_iload_n C dX10_listsRotations_96 rfl ?_
                obtain ⟨hi, h⟩ := ck_e h
                refine r_iald C i_126 hi dX10_listsRotations_97 ?_
                refine bd_e h (fun v11 σ11 hf11 h => ?_)
                refine r_callVi C g_X10_isIn hc_10 o_124 ml_X10_231 (mX10_isIn hl hI  hf11) rfl rfl (by exact Nat.le_of_ble_eq_true rfl) ⟨Nat.le_of_ble_eq_true rfl, Nat.le_of_ble_eq_true rfl, Nat.le_of_ble_eq_true rfl⟩ dX10_listsRotations_98 ?_
                refine r_if_eq C (tgt := 112) h (by decide) dX10_listsRotations_101 (fun hc h => ?_) (fun hc h => ?_)
                · exact L112 _ _ _ _ h
                · refine r_aload_n C dX10_listsRotations_104 rfl ?_
                  refine r_iconst C ic_3 dX10_listsRotations_105 ?_
                  refine r_iload_n C dX10_listsRotations_106 rfl ?_
                  refine r_iload_n C dX10_listsRotations_107 rfl ?_
                  refine r_iload_n C dX10_listsRotations_108 rfl ?_
                  refine bv_e h (fun σ12 hf12 h => ?_)
                  refine r_callVv C g_X10_lists hc_10 o_124 ml_X10_251 (mX10_lists hl hI  hf12) rfl rfl (by exact Nat.le_of_ble_eq_true rfl) ⟨Nat.le_of_ble_eq_true rfl, Nat.le_of_ble_eq_true rfl, Nat.le_of_ble_eq_true rfl⟩ dX10_listsRotations_109 ?_
                  exact L112 _ _ _ _ h
          intro σ l1 l2 l3 h
          have h : fX10_listsRotations_B16 (fX10_listsRotations_L4  n4) (fX10_listsRotations_L16 (fX10_listsRotations_L4  n4) n16) σ l1 l2 l3 = some τ := h
          refine r_iload_n C dX10_listsRotations_16 rfl ?_
          refine r_aload_n C dX10_listsRotations_17 rfl ?_
          refine r_getI C ck_10 f_124_7 (by decide) fl_X10_120 rfl dX10_listsRotations_18 ?_
          refine r_ic_ge C (tgt := 118) h (by decide) dX10_listsRotations_21 (fun hc h => ?_) (fun hc h => ?_)
          · refine r_iinc C ic_1 (by decide) dX10_listsRotations_118 rfl ?_
            refine r_goto C (tgt := 4) (by decide) dX10_listsRotations_121 ?_
            refine r_weak C [some (.inr 124), some (.inl l1), some (.inl (l2 + (1 : Int32))), none] ⟨rfl, ⟨rfl, ⟨rfl, trivial⟩⟩⟩ ?_
            exact ih4 _ _ _ h
          · refine r_iload_n C dX10_listsRotations_24 rfl ?_
            refine r_iload_n C dX10_listsRotations_25 rfl ?_
            refine r_ic_eq C (tgt := 112) h (by decide) dX10_listsRotations_26 (fun hc h => ?_) (fun hc h => ?_)
            · exact L112 _ _ _ _ h
            · refine r_aload_n C dX10_listsRotations_29 rfl ?_
              refine r_getR C ck_10 f_124_2 (by decide) fl_X10_13 rfl dX10_listsRotations_30 ?_
              refine r_iload_n C dX10_listsRotations_33 rfl ?_
              obtain ⟨hi, h⟩ := ck_e h
              refine r_iald C i_126 hi dX10_listsRotations_34 ?_
              refine r_aload_n C dX10_listsRotations_35 rfl ?_
              refine r_getR C ck_10 f_124_2 (by decide) fl_X10_13 rfl dX10_listsRotations_36 ?_
              refine r_iload_n C dX10_listsRotations_39 rfl ?_
              obtain ⟨hi, h⟩ := ck_e h
              refine r_iald C i_126 hi dX10_listsRotations_40 ?_
              refine r_ic_ne C (tgt := 62) h (by decide) dX10_listsRotations_41 (fun hc h => ?_) (fun hc h => ?_)
              · exact L62 _ _ _ _ h
              · refine r_aload_n C dX10_listsRotations_44 rfl ?_
                refine r_getR C ck_10 f_124_2 (by decide) fl_X10_13 rfl dX10_listsRotations_45 ?_
                refine r_iload_n C dX10_listsRotations_48 rfl ?_
                obtain ⟨hi, h⟩ := ck_e h
                refine r_iald C i_126 hi dX10_listsRotations_49 ?_
                refine r_aload_n C dX10_listsRotations_50 rfl ?_
                refine r_getR C ck_10 f_124_2 (by decide) fl_X10_13 rfl dX10_listsRotations_51 ?_
                refine r_iload_n C dX10_listsRotations_54 rfl ?_
                obtain ⟨hi, h⟩ := ck_e h
                refine r_iald C i_126 hi dX10_listsRotations_55 ?_
                refine r_ic_ne C (tgt := 62) h (by decide) dX10_listsRotations_56 (fun hc h => ?_) (fun hc h => ?_)
                · exact L62 _ _ _ _ h
                · refine r_goto C (tgt := 112) (by decide) dX10_listsRotations_59 ?_
                  exact L112 _ _ _ _ h
      intro σ l1 l2 h
      have h : fX10_listsRotations_B4  (fX10_listsRotations_L4  n4) σ l1 l2 = some τ := h
      refine r_iload_n C dX10_listsRotations_4 rfl ?_
      refine r_aload_n C dX10_listsRotations_5 rfl ?_
      refine r_getI C ck_10 f_124_7 (by decide) fl_X10_120 rfl dX10_listsRotations_6 ?_
      refine r_ic_ge C (tgt := 124) h (by decide) dX10_listsRotations_9 (fun hc h => ?_) (fun hc h => ?_)
      · exact r_vret C rfl (Nat.le_of_ble_eq_true rfl) dX10_listsRotations_124 (re_v h)
      · refine r_iload_n C dX10_listsRotations_12 rfl ?_
        refine r_iconst C ic_1 dX10_listsRotations_13 ?_
        refine r_iadd C dX10_listsRotations_14 ?_
        refine r_istore_n C (by decide) dX10_listsRotations_15 ?_
        exact L16 FU _ _ _ _ h
  refine r_iload_n C dX10_listsRotations_0 rfl ?_
  refine r_iconst C ic_1 dX10_listsRotations_1 ?_
  refine r_iadd C dX10_listsRotations_2 ?_
  refine r_istore_n C (by decide) dX10_listsRotations_3 ?_
  exact L4 FU _ _ _ h
set_option maxHeartbeats 4000000 in
set_option maxRecDepth 100000 in
theorem mX10_findMoves {l : Launch} {D : va_G} {ad : Nat → Nat} {cy : Nat → ClassId} (hl : l.stackTraces = false) (hI : Inj ad)   {σ τ : Mem} (h : fX10_findMoves σ = some τ) : Co l D ad cy yX10_findMoves cX10_findMoves 2 (Option.none : Option Jvm.ClassFile.FieldType) 7 242 0 [.ref (ad 124)] σ (zv) τ := by
  refine co_of (av := [.inr 124]) hl hI (by decide +kernel) (Nat.le_of_ble_eq_true rfl) [some (.inr 124), none] rfl (fun V C => ?_)
  have C : Rl l D ad cy RX10 cX10_findMoves 2 (Option.none : Option Jvm.ClassFile.FieldType) 7 242 0 (zv) τ V := C
  have L114 : ∀ (n : Nat) (σ : Mem) (l1 : Int32), fX10_findMoves_L114  n σ l1 = some τ → V 0 σ 114 [some (.inr 124), some (.inl l1)] [] := by
    intro n114
    induction n114 with
    | zero => intro σ l1 h; exact no_e h
    | succ n114 ih114 =>
      intro σ l1 h
      have h : fX10_findMoves_B114  (fX10_findMoves_L114  n114) σ l1 = some τ := h
      refine r_iload_n C dX10_findMoves_114 rfl ?_
      refine r_aload_n C dX10_findMoves_115 rfl ?_
      refine r_getI C ck_10 f_124_7 (by decide) fl_X10_120 rfl dX10_findMoves_116 ?_
      refine r_ic_ge C (tgt := 144) h (by decide) dX10_findMoves_119 (fun hc h => ?_) (fun hc h => ?_)
      · exact r_vret C rfl (Nat.le_of_ble_eq_true rfl) dX10_findMoves_144 (re_v h)
      · refine r_aload_n C dX10_findMoves_122 rfl ?_
        refine r_getI C ck_10 f_124_20 (by decide) fl_X10_40 rfl dX10_findMoves_123 ?_
        refine r_iconst C ic_3 dX10_findMoves_126 ?_
        refine bd_e h (fun v21 σ21 hf21 h => ?_)
        refine r_callSi C g_X10_has ml_X10_126 (mX10_has hl hI  hf21) rfl rfl (by exact Nat.le_of_ble_eq_true rfl) ⟨Nat.le_of_ble_eq_true rfl, Nat.le_of_ble_eq_true rfl, Nat.le_of_ble_eq_true rfl⟩ dX10_findMoves_127 ?_
        refine r_if_eq C (tgt := 144) h (by decide) dX10_findMoves_130 (fun hc h => ?_) (fun hc h => ?_)
        · exact r_vret C rfl (Nat.le_of_ble_eq_true rfl) dX10_findMoves_144 (re_v h)
        · refine r_aload_n C dX10_findMoves_133 rfl ?_
          refine r_iload_n C dX10_findMoves_134 rfl ?_
          refine bv_e h (fun σ22 hf22 h => ?_)
          refine r_callVv C g_X10_listsRotations hc_10 o_124 ml_X10_260 (mX10_listsRotations hl hI  hf22) rfl rfl (by exact Nat.le_of_ble_eq_true rfl) ⟨Nat.le_of_ble_eq_true rfl, Nat.le_of_ble_eq_true rfl, Nat.le_of_ble_eq_true rfl⟩ dX10_findMoves_135 ?_
          refine r_iinc C ic_1 (by decide) dX10_findMoves_138 rfl ?_
          refine r_goto C (tgt := 114) (by decide) dX10_findMoves_141 ?_
          exact ih114 _ _ h
  have L112 : ∀ (σ : Mem), fX10_findMoves_L112   σ  = some τ → V 0 σ 112 [some (.inr 124), none] [] := by
    intro  σ  h
    refine r_iconst C ic_0 dX10_findMoves_112 ?_
    refine r_istore_n C (by decide) dX10_findMoves_113 ?_
    exact L114 FU _ _ h
  have L71 : ∀ (n : Nat) (σ : Mem) (l1 : Int32), fX10_findMoves_L71  n σ l1 = some τ → V 0 σ 71 [some (.inr 124), some (.inl l1)] [] := by
    intro n71
    induction n71 with
    | zero => intro σ l1 h; exact no_e h
    | succ n71 ih71 =>
      intro σ l1 h
      have h : fX10_findMoves_B71  (fX10_findMoves_L71  n71) σ l1 = some τ := h
      refine r_iload_n C dX10_findMoves_71 rfl ?_
      refine r_aload_n C dX10_findMoves_72 rfl ?_
      refine r_getI C ck_10 f_124_7 (by decide) fl_X10_120 rfl dX10_findMoves_73 ?_
      refine r_ic_ge C (tgt := 112) h (by decide) dX10_findMoves_76 (fun hc h => ?_) (fun hc h => ?_)
      · refine r_weak C [some (.inr 124), none] ⟨rfl, trivial⟩ ?_
        exact L112 _ h
      · refine r_aload_n C dX10_findMoves_79 rfl ?_
        refine r_getI C ck_10 f_124_20 (by decide) fl_X10_40 rfl dX10_findMoves_80 ?_
        refine r_iconst C ic_2 dX10_findMoves_83 ?_
        refine bd_e h (fun v23 σ23 hf23 h => ?_)
        refine r_callSi C g_X10_has ml_X10_126 (mX10_has hl hI  hf23) rfl rfl (by exact Nat.le_of_ble_eq_true rfl) ⟨Nat.le_of_ble_eq_true rfl, Nat.le_of_ble_eq_true rfl, Nat.le_of_ble_eq_true rfl⟩ dX10_findMoves_84 ?_
        refine r_if_eq C (tgt := 112) h (by decide) dX10_findMoves_87 (fun hc h => ?_) (fun hc h => ?_)
        · refine r_weak C [some (.inr 124), none] ⟨rfl, trivial⟩ ?_
          exact L112 _ h
        · refine r_aload_n C dX10_findMoves_90 rfl ?_
          refine r_iconst C ic_2 dX10_findMoves_91 ?_
          refine r_iload_n C dX10_findMoves_92 rfl ?_
          refine r_iconst C ic_0 dX10_findMoves_93 ?_
          refine r_iconst C ic_m1 dX10_findMoves_94 ?_
          refine bv_e h (fun σ24 hf24 h => ?_)
          refine r_callVv C g_X10_lists hc_10 o_124 ml_X10_251 (mX10_lists hl hI  hf24) rfl rfl (by exact Nat.le_of_ble_eq_true rfl) ⟨Nat.le_of_ble_eq_true rfl, Nat.le_of_ble_eq_true rfl, Nat.le_of_ble_eq_true rfl⟩ dX10_findMoves_95 ?_
          refine r_aload_n C dX10_findMoves_98 rfl ?_
          refine r_iconst C ic_2 dX10_findMoves_99 ?_
          refine r_iload_n C dX10_findMoves_100 rfl ?_
          refine r_iconst C ic_1 dX10_findMoves_101 ?_
          refine r_iconst C ic_m1 dX10_findMoves_102 ?_
          refine bv_e h (fun σ25 hf25 h => ?_)
          refine r_callVv C g_X10_lists hc_10 o_124 ml_X10_251 (mX10_lists hl hI  hf25) rfl rfl (by exact Nat.le_of_ble_eq_true rfl) ⟨Nat.le_of_ble_eq_true rfl, Nat.le_of_ble_eq_true rfl, Nat.le_of_ble_eq_true rfl⟩ dX10_findMoves_103 ?_
          refine r_iinc C ic_1 (by decide) dX10_findMoves_106 rfl ?_
          refine r_goto C (tgt := 71) (by decide) dX10_findMoves_109 ?_
          exact ih71 _ _ h
  have L69 : ∀ (σ : Mem), fX10_findMoves_L69   σ  = some τ → V 0 σ 69 [some (.inr 124), none] [] := by
    intro  σ  h
    refine r_iconst C ic_0 dX10_findMoves_69 ?_
    refine r_istore_n C (by decide) dX10_findMoves_70 ?_
    exact L71 FU _ _ h
  have L39 : ∀ (n : Nat) (σ : Mem) (l1 : Int32), fX10_findMoves_L39  n σ l1 = some τ → V 0 σ 39 [some (.inr 124), some (.inl l1)] [] := by
    intro n39
    induction n39 with
    | zero => intro σ l1 h; exact no_e h
    | succ n39 ih39 =>
      intro σ l1 h
      have h : fX10_findMoves_B39  (fX10_findMoves_L39  n39) σ l1 = some τ := h
      refine r_iload_n C dX10_findMoves_39 rfl ?_
      refine r_aload_n C dX10_findMoves_40 rfl ?_
      refine r_getI C ck_10 f_124_7 (by decide) fl_X10_120 rfl dX10_findMoves_41 ?_
      refine r_ic_ge C (tgt := 69) h (by decide) dX10_findMoves_44 (fun hc h => ?_) (fun hc h => ?_)
      · refine r_weak C [some (.inr 124), none] ⟨rfl, trivial⟩ ?_
        exact L69 _ h
      · refine r_aload_n C dX10_findMoves_47 rfl ?_
        refine r_getI C ck_10 f_124_20 (by decide) fl_X10_40 rfl dX10_findMoves_48 ?_
        refine r_iconst C ic_1 dX10_findMoves_51 ?_
        refine bd_e h (fun v26 σ26 hf26 h => ?_)
        refine r_callSi C g_X10_has ml_X10_126 (mX10_has hl hI  hf26) rfl rfl (by exact Nat.le_of_ble_eq_true rfl) ⟨Nat.le_of_ble_eq_true rfl, Nat.le_of_ble_eq_true rfl, Nat.le_of_ble_eq_true rfl⟩ dX10_findMoves_52 ?_
        refine r_if_eq C (tgt := 69) h (by decide) dX10_findMoves_55 (fun hc h => ?_) (fun hc h => ?_)
        · refine r_weak C [some (.inr 124), none] ⟨rfl, trivial⟩ ?_
          exact L69 _ h
        · refine r_aload_n C dX10_findMoves_58 rfl ?_
          refine r_iload_n C dX10_findMoves_59 rfl ?_
          refine bv_e h (fun σ27 hf27 h => ?_)
          refine r_callVv C g_X10_listsSwaps hc_10 o_124 ml_X10_257 (mX10_listsSwaps hl hI  hf27) rfl rfl (by exact Nat.le_of_ble_eq_true rfl) ⟨Nat.le_of_ble_eq_true rfl, Nat.le_of_ble_eq_true rfl, Nat.le_of_ble_eq_true rfl⟩ dX10_findMoves_60 ?_
          refine r_iinc C ic_1 (by decide) dX10_findMoves_63 rfl ?_
          refine r_goto C (tgt := 39) (by decide) dX10_findMoves_66 ?_
          exact ih39 _ _ h
  have L37 : ∀ (σ : Mem), fX10_findMoves_L37   σ  = some τ → V 0 σ 37 [some (.inr 124), none] [] := by
    intro  σ  h
    refine r_iconst C ic_0 dX10_findMoves_37 ?_
    refine r_istore_n C (by decide) dX10_findMoves_38 ?_
    exact L39 FU _ _ h
  have L7 : ∀ (n : Nat) (σ : Mem) (l1 : Int32), fX10_findMoves_L7  n σ l1 = some τ → V 0 σ 7 [some (.inr 124), some (.inl l1)] [] := by
    intro n7
    induction n7 with
    | zero => intro σ l1 h; exact no_e h
    | succ n7 ih7 =>
      intro σ l1 h
      have h : fX10_findMoves_B7  (fX10_findMoves_L7  n7) σ l1 = some τ := h
      refine r_iload_n C dX10_findMoves_7 rfl ?_
      refine r_aload_n C dX10_findMoves_8 rfl ?_
      refine r_getI C ck_10 f_124_7 (by decide) fl_X10_120 rfl dX10_findMoves_9 ?_
      refine r_ic_ge C (tgt := 37) h (by decide) dX10_findMoves_12 (fun hc h => ?_) (fun hc h => ?_)
      · refine r_weak C [some (.inr 124), none] ⟨rfl, trivial⟩ ?_
        exact L37 _ h
      · refine r_aload_n C dX10_findMoves_15 rfl ?_
        refine r_getI C ck_10 f_124_20 (by decide) fl_X10_40 rfl dX10_findMoves_16 ?_
        refine r_iconst C ic_0 dX10_findMoves_19 ?_
        refine bd_e h (fun v28 σ28 hf28 h => ?_)
        refine r_callSi C g_X10_has ml_X10_126 (mX10_has hl hI  hf28) rfl rfl (by exact Nat.le_of_ble_eq_true rfl) ⟨Nat.le_of_ble_eq_true rfl, Nat.le_of_ble_eq_true rfl, Nat.le_of_ble_eq_true rfl⟩ dX10_findMoves_20 ?_
        refine r_if_eq C (tgt := 37) h (by decide) dX10_findMoves_23 (fun hc h => ?_) (fun hc h => ?_)
        · refine r_weak C [some (.inr 124), none] ⟨rfl, trivial⟩ ?_
          exact L37 _ h
        · refine r_aload_n C dX10_findMoves_26 rfl ?_
          refine r_iload_n C dX10_findMoves_27 rfl ?_
          refine bv_e h (fun σ29 hf29 h => ?_)
          refine r_callVv C g_X10_listsSets hc_10 o_124 ml_X10_254 (mX10_listsSets hl hI  hf29) rfl rfl (by exact Nat.le_of_ble_eq_true rfl) ⟨Nat.le_of_ble_eq_true rfl, Nat.le_of_ble_eq_true rfl, Nat.le_of_ble_eq_true rfl⟩ dX10_findMoves_28 ?_
          refine r_iinc C ic_1 (by decide) dX10_findMoves_31 rfl ?_
          refine r_goto C (tgt := 7) (by decide) dX10_findMoves_34 ?_
          exact ih7 _ _ h
  refine r_aload_n C dX10_findMoves_0 rfl ?_
  refine r_iconst C ic_0 dX10_findMoves_1 ?_
  refine r_putI C ck_10 f_124_39 (by decide) fl_X10_245 rfl rfl rfl rfl rfl dX10_findMoves_2 h (fun σ30 h => ?_)
  refine r_iconst C ic_0 dX10_findMoves_5 ?_
  refine r_istore_n C (by decide) dX10_findMoves_6 ?_
  exact L7 FU _ _ h
set_option maxHeartbeats 4000000 in
set_option maxRecDepth 100000 in
theorem mX10_setNeighborhood {l : Launch} {D : va_G} {ad : Nat → Nat} {cy : Nat → ClassId} (hl : l.stackTraces = false) (hI : Inj ad)   {σ τ : Mem} {a1 : Int32} {r : Int32} (h : fX10_setNeighborhood σ a1 = some (r, τ)) : Co l D ad cy yX10_setNeighborhood cX10_setNeighborhood 3 (Option.some Jvm.ClassFile.FieldType.int) 2 122 0 [.ref (ad 124), .int a1] σ (zi r) τ := by
  refine co_of (av := [.inr 124, .inl a1]) hl hI (by decide +kernel) (Nat.le_of_ble_eq_true rfl) [some (.inr 124), some (.inl a1), none] rfl (fun V C => ?_)
  have C : Rl l D ad cy RX10 cX10_setNeighborhood 3 (Option.some Jvm.ClassFile.FieldType.int) 2 122 0 (zi r) τ V := C
  refine r_iload_n C dX10_setNeighborhood_0 rfl ?_
  refine r_iconst C ic_0 dX10_setNeighborhood_1 ?_
  refine r_bipush C bp_15 dX10_setNeighborhood_2 ?_
  refine bd_e h (fun v9 σ9 hf9 h => ?_)
  refine r_callSi C g_X10_isBetween ml_X10_199 (mX10_isBetween hl hI  hf9) rfl rfl (by exact Nat.le_of_ble_eq_true rfl) ⟨Nat.le_of_ble_eq_true rfl, Nat.le_of_ble_eq_true rfl, Nat.le_of_ble_eq_true rfl⟩ dX10_setNeighborhood_4 ?_
  refine r_if_ne C (tgt := 16) h (by decide) dX10_setNeighborhood_7 (fun hc h => ?_) (fun hc h => ?_)
  · refine r_aload_n C dX10_setNeighborhood_16 rfl ?_
    refine r_iconst C ic_0 dX10_setNeighborhood_17 ?_
    refine r_putI C ck_10 f_124_0 (by decide) fl_X10_117 rfl rfl rfl rfl rfl dX10_setNeighborhood_18 h (fun σ10 h => ?_)
    refine r_aload_n C dX10_setNeighborhood_21 rfl ?_
    refine r_getI C ck_10 f_124_20 (by decide) fl_X10_40 rfl dX10_setNeighborhood_22 ?_
    refine r_istore_n C (by decide) dX10_setNeighborhood_25 ?_
    refine r_aload_n C dX10_setNeighborhood_26 rfl ?_
    refine r_iload_n C dX10_setNeighborhood_27 rfl ?_
    refine r_putI C ck_10 f_124_20 (by decide) fl_X10_40 rfl rfl rfl rfl rfl dX10_setNeighborhood_28 h (fun σ11 h => ?_)
    refine r_iload_n C dX10_setNeighborhood_31 rfl ?_
    exact r_iret C rfl (Nat.le_of_ble_eq_true rfl) dX10_setNeighborhood_32 (re_i h)
  · refine r_aload_n C dX10_setNeighborhood_10 rfl ?_
    refine r_iconst C ic_1 dX10_setNeighborhood_11 ?_
    refine bd_e h (fun v12 σ12 hf12 h => ?_)
    refine r_callVi C g_X10_fails hc_10 o_124 ml_X10_203 (mX10_fails hl hI  hf12) rfl rfl (by exact Nat.le_of_ble_eq_true rfl) ⟨Nat.le_of_ble_eq_true rfl, Nat.le_of_ble_eq_true rfl, Nat.le_of_ble_eq_true rfl⟩ dX10_setNeighborhood_12 ?_
    exact r_iret C rfl (Nat.le_of_ble_eq_true rfl) dX10_setNeighborhood_15 (re_i h)
set_option maxHeartbeats 4000000 in
set_option maxRecDepth 100000 in
theorem mX10_setTenure {l : Launch} {D : va_G} {ad : Nat → Nat} {cy : Nat → ClassId} (hl : l.stackTraces = false) (hI : Inj ad)   {σ τ : Mem} {a1 : Int32} {r : Int32} (h : fX10_setTenure σ a1 = some (r, τ)) : Co l D ad cy yX10_setTenure cX10_setTenure 3 (Option.some Jvm.ClassFile.FieldType.int) 2 122 0 [.ref (ad 124), .int a1] σ (zi r) τ := by
  refine co_of (av := [.inr 124, .inl a1]) hl hI (by decide +kernel) (Nat.le_of_ble_eq_true rfl) [some (.inr 124), some (.inl a1), none] rfl (fun V C => ?_)
  have C : Rl l D ad cy RX10 cX10_setTenure 3 (Option.some Jvm.ClassFile.FieldType.int) 2 122 0 (zi r) τ V := C
  refine r_iload_n C dX10_setTenure_0 rfl ?_
  refine r_iconst C ic_0 dX10_setTenure_1 ?_
  refine r_bipush C bp_20 dX10_setTenure_2 ?_
  refine bd_e h (fun v9 σ9 hf9 h => ?_)
  refine r_callSi C g_X10_isBetween ml_X10_199 (mX10_isBetween hl hI  hf9) rfl rfl (by exact Nat.le_of_ble_eq_true rfl) ⟨Nat.le_of_ble_eq_true rfl, Nat.le_of_ble_eq_true rfl, Nat.le_of_ble_eq_true rfl⟩ dX10_setTenure_4 ?_
  refine r_if_ne C (tgt := 16) h (by decide) dX10_setTenure_7 (fun hc h => ?_) (fun hc h => ?_)
  · refine r_aload_n C dX10_setTenure_16 rfl ?_
    refine r_iconst C ic_0 dX10_setTenure_17 ?_
    refine r_putI C ck_10 f_124_0 (by decide) fl_X10_117 rfl rfl rfl rfl rfl dX10_setTenure_18 h (fun σ10 h => ?_)
    refine r_aload_n C dX10_setTenure_21 rfl ?_
    refine r_getI C ck_10 f_124_21 (by decide) fl_X10_44 rfl dX10_setTenure_22 ?_
    refine r_istore_n C (by decide) dX10_setTenure_25 ?_
    refine r_aload_n C dX10_setTenure_26 rfl ?_
    refine r_iload_n C dX10_setTenure_27 rfl ?_
    refine r_putI C ck_10 f_124_21 (by decide) fl_X10_44 rfl rfl rfl rfl rfl dX10_setTenure_28 h (fun σ11 h => ?_)
    refine r_iload_n C dX10_setTenure_31 rfl ?_
    exact r_iret C rfl (Nat.le_of_ble_eq_true rfl) dX10_setTenure_32 (re_i h)
  · refine r_aload_n C dX10_setTenure_10 rfl ?_
    refine r_iconst C ic_1 dX10_setTenure_11 ?_
    refine bd_e h (fun v12 σ12 hf12 h => ?_)
    refine r_callVi C g_X10_fails hc_10 o_124 ml_X10_203 (mX10_fails hl hI  hf12) rfl rfl (by exact Nat.le_of_ble_eq_true rfl) ⟨Nat.le_of_ble_eq_true rfl, Nat.le_of_ble_eq_true rfl, Nat.le_of_ble_eq_true rfl⟩ dX10_setTenure_12 ?_
    exact r_iret C rfl (Nat.le_of_ble_eq_true rfl) dX10_setTenure_15 (re_i h)
set_option maxHeartbeats 4000000 in
set_option maxRecDepth 100000 in
theorem mX10_setPatience {l : Launch} {D : va_G} {ad : Nat → Nat} {cy : Nat → ClassId} (hl : l.stackTraces = false) (hI : Inj ad)   {σ τ : Mem} {a1 : Int32} {r : Int32} (h : fX10_setPatience σ a1 = some (r, τ)) : Co l D ad cy yX10_setPatience cX10_setPatience 3 (Option.some Jvm.ClassFile.FieldType.int) 2 122 0 [.ref (ad 124), .int a1] σ (zi r) τ := by
  refine co_of (av := [.inr 124, .inl a1]) hl hI (by decide +kernel) (Nat.le_of_ble_eq_true rfl) [some (.inr 124), some (.inl a1), none] rfl (fun V C => ?_)
  have C : Rl l D ad cy RX10 cX10_setPatience 3 (Option.some Jvm.ClassFile.FieldType.int) 2 122 0 (zi r) τ V := C
  refine r_iload_n C dX10_setPatience_0 rfl ?_
  refine r_iconst C ic_1 dX10_setPatience_1 ?_
  refine r_bipush C bp_100 dX10_setPatience_2 ?_
  refine bd_e h (fun v9 σ9 hf9 h => ?_)
  refine r_callSi C g_X10_isBetween ml_X10_199 (mX10_isBetween hl hI  hf9) rfl rfl (by exact Nat.le_of_ble_eq_true rfl) ⟨Nat.le_of_ble_eq_true rfl, Nat.le_of_ble_eq_true rfl, Nat.le_of_ble_eq_true rfl⟩ dX10_setPatience_4 ?_
  refine r_if_ne C (tgt := 16) h (by decide) dX10_setPatience_7 (fun hc h => ?_) (fun hc h => ?_)
  · refine r_aload_n C dX10_setPatience_16 rfl ?_
    refine r_iconst C ic_0 dX10_setPatience_17 ?_
    refine r_putI C ck_10 f_124_0 (by decide) fl_X10_117 rfl rfl rfl rfl rfl dX10_setPatience_18 h (fun σ10 h => ?_)
    refine r_aload_n C dX10_setPatience_21 rfl ?_
    refine r_getI C ck_10 f_124_22 (by decide) fl_X10_47 rfl dX10_setPatience_22 ?_
    refine r_istore_n C (by decide) dX10_setPatience_25 ?_
    refine r_aload_n C dX10_setPatience_26 rfl ?_
    refine r_iload_n C dX10_setPatience_27 rfl ?_
    refine r_putI C ck_10 f_124_22 (by decide) fl_X10_47 rfl rfl rfl rfl rfl dX10_setPatience_28 h (fun σ11 h => ?_)
    refine r_iload_n C dX10_setPatience_31 rfl ?_
    exact r_iret C rfl (Nat.le_of_ble_eq_true rfl) dX10_setPatience_32 (re_i h)
  · refine r_aload_n C dX10_setPatience_10 rfl ?_
    refine r_iconst C ic_1 dX10_setPatience_11 ?_
    refine bd_e h (fun v12 σ12 hf12 h => ?_)
    refine r_callVi C g_X10_fails hc_10 o_124 ml_X10_203 (mX10_fails hl hI  hf12) rfl rfl (by exact Nat.le_of_ble_eq_true rfl) ⟨Nat.le_of_ble_eq_true rfl, Nat.le_of_ble_eq_true rfl, Nat.le_of_ble_eq_true rfl⟩ dX10_setPatience_12 ?_
    exact r_iret C rfl (Nat.le_of_ble_eq_true rfl) dX10_setPatience_15 (re_i h)
set_option maxHeartbeats 4000000 in
set_option maxRecDepth 100000 in
theorem mX10_setSeed {l : Launch} {D : va_G} {ad : Nat → Nat} {cy : Nat → ClassId} (hl : l.stackTraces = false) (hI : Inj ad)   {σ τ : Mem} {a1 : Int32} {r : Int32} (h : fX10_setSeed σ a1 = some (r, τ)) : Co l D ad cy yX10_setSeed cX10_setSeed 3 (Option.some Jvm.ClassFile.FieldType.int) 2 121 0 [.ref (ad 124), .int a1] σ (zi r) τ := by
  refine co_of (av := [.inr 124, .inl a1]) hl hI (by decide +kernel) (Nat.le_of_ble_eq_true rfl) [some (.inr 124), some (.inl a1), none] rfl (fun V C => ?_)
  have C : Rl l D ad cy RX10 cX10_setSeed 3 (Option.some Jvm.ClassFile.FieldType.int) 2 121 0 (zi r) τ V := C
  refine r_iload_n C dX10_setSeed_0 rfl ?_
  refine r_if_ge C (tgt := 10) h (by decide) dX10_setSeed_1 (fun hc h => ?_) (fun hc h => ?_)
  · refine r_aload_n C dX10_setSeed_10 rfl ?_
    refine r_iconst C ic_0 dX10_setSeed_11 ?_
    refine r_putI C ck_10 f_124_0 (by decide) fl_X10_117 rfl rfl rfl rfl rfl dX10_setSeed_12 h (fun σ7 h => ?_)
    refine r_aload_n C dX10_setSeed_15 rfl ?_
    refine r_getI C ck_10 f_124_23 (by decide) fl_X10_50 rfl dX10_setSeed_16 ?_
    refine r_istore_n C (by decide) dX10_setSeed_19 ?_
    refine r_aload_n C dX10_setSeed_20 rfl ?_
    refine r_iload_n C dX10_setSeed_21 rfl ?_
    refine r_putI C ck_10 f_124_23 (by decide) fl_X10_50 rfl rfl rfl rfl rfl dX10_setSeed_22 h (fun σ8 h => ?_)
    refine r_iload_n C dX10_setSeed_25 rfl ?_
    exact r_iret C rfl (Nat.le_of_ble_eq_true rfl) dX10_setSeed_26 (re_i h)
  · refine r_aload_n C dX10_setSeed_4 rfl ?_
    refine r_iconst C ic_1 dX10_setSeed_5 ?_
    refine bd_e h (fun v9 σ9 hf9 h => ?_)
    refine r_callVi C g_X10_fails hc_10 o_124 ml_X10_203 (mX10_fails hl hI  hf9) rfl rfl (by exact Nat.le_of_ble_eq_true rfl) ⟨Nat.le_of_ble_eq_true rfl, Nat.le_of_ble_eq_true rfl, Nat.le_of_ble_eq_true rfl⟩ dX10_setSeed_6 ?_
    exact r_iret C rfl (Nat.le_of_ble_eq_true rfl) dX10_setSeed_9 (re_i h)
set_option maxHeartbeats 4000000 in
set_option maxRecDepth 100000 in
theorem mX10_moves {l : Launch} {D : va_G} {ad : Nat → Nat} {cy : Nat → ClassId} (hl : l.stackTraces = false) (hI : Inj ad)   {σ τ : Mem} {a1 : Int32} {r : Int32} (h : fX10_moves σ a1 = some (r, τ)) : Co l D ad cy yX10_moves cX10_moves 4 (Option.some Jvm.ClassFile.FieldType.int) 8 263 0 [.ref (ad 124), .int a1] σ (zi r) τ := by
  refine co_of (av := [.inr 124, .inl a1]) hl hI (by decide +kernel) (Nat.le_of_ble_eq_true rfl) [some (.inr 124), some (.inl a1), none, none] rfl (fun V C => ?_)
  have C : Rl l D ad cy RX10 cX10_moves 4 (Option.some Jvm.ClassFile.FieldType.int) 8 263 0 (zi r) τ V := C
  have L13 : ∀ (n : Nat) (σ : Mem) (l1 l2 l3 : Int32), fX10_moves_L13  n σ l1 l2 l3 = some (r, τ) → V 0 σ 13 [some (.inr 124), some (.inl l1), some (.inl l2), some (.inl l3)] [] := by
    intro n13
    induction n13 with
    | zero => intro σ l1 l2 l3 h; exact no_e h
    | succ n13 ih13 =>
      have L40 : ∀ (σ : Mem) (l1 l3 s0 s1 : Int32), fX10_moves_L40 (fX10_moves_L13  n13)  σ l1 l3 s0 s1 = some (r, τ) → V 0 σ 40 [some (.inr 124), some (.inl l1), none, some (.inl l3)] [.int s1, .int s0] := by
        intro  σ l1 l3 s0 s1 h
        refine r_iadd C dX10_moves_40 ?_
        refine r_istore_n C (by decide) dX10_moves_41 ?_
        refine r_iinc C ic_1 (by decide) dX10_moves_42 rfl ?_
        refine r_goto C (tgt := 13) (by decide) dX10_moves_45 ?_
        exact ih13 _ _ _ _ h
      have L35 : ∀ (σ : Mem) (l1 l3 s0 : Int32), fX10_moves_L35 (fX10_moves_L13  n13)  σ l1 l3 s0 = some (r, τ) → V 0 σ 35 [some (.inr 124), some (.inl l1), none, some (.inl l3)] [.int s0] := by
        intro  σ l1 l3 s0 h
        refine r_iconst C ic_1 dX10_moves_35 ?_
        refine r_goto C (tgt := 40) (by decide) dX10_moves_36 ?_
        exact L40 _ _ _ _ _ h
      intro σ l1 l2 l3 h
      have h : fX10_moves_B13  (fX10_moves_L13  n13) σ l1 l2 l3 = some (r, τ) := h
      refine r_iload_n C dX10_moves_13 rfl ?_
      refine r_aload_n C dX10_moves_14 rfl ?_
      refine r_getI C ck_10 f_124_39 (by decide) fl_X10_245 rfl dX10_moves_15 ?_
      refine r_ic_ge C (tgt := 48) h (by decide) dX10_moves_18 (fun hc h => ?_) (fun hc h => ?_)
      · refine r_iload_n C dX10_moves_48 rfl ?_
        exact r_iret C rfl (Nat.le_of_ble_eq_true rfl) dX10_moves_49 (re_i h)
      · refine r_iload_n C dX10_moves_21 rfl ?_
        refine r_iload_n C dX10_moves_22 rfl ?_
        refine r_if_eq C (tgt := 35) h (by decide) dX10_moves_23 (fun hc h => ?_) (fun hc h => ?_)
        · refine r_weak C [some (.inr 124), some (.inl l1), none, some (.inl l3)] ⟨rfl, ⟨rfl, ⟨rfl, trivial⟩⟩⟩ ?_
          exact L35 _ _ _ _ h
        · refine r_aload_n C dX10_moves_26 rfl ?_
          refine r_getR C ck_10 f_124_38 (by decide) fl_X10_83 rfl dX10_moves_27 ?_
          refine r_iload_n C dX10_moves_30 rfl ?_
          obtain ⟨hi, h⟩ := ck_e h
          refine r_zald C i_145 hi dX10_moves_31 ?_
          refine r_if_eq C (tgt := 39) h (by decide) dX10_moves_32 (fun hc h => ?_) (fun hc h => ?_)
          · refine r_iconst C ic_0 dX10_moves_39 ?_
            refine r_weak C [some (.inr 124), some (.inl l1), none, some (.inl l3)] ⟨rfl, ⟨rfl, ⟨rfl, trivial⟩⟩⟩ ?_
            exact L40 _ _ _ _ _ h
          · refine r_weak C [some (.inr 124), some (.inl l1), none, some (.inl l3)] ⟨rfl, ⟨rfl, ⟨rfl, trivial⟩⟩⟩ ?_
            exact L35 _ _ _ _ h
  refine r_aload_n C dX10_moves_0 rfl ?_
  refine r_iconst C ic_0 dX10_moves_1 ?_
  refine r_putI C ck_10 f_124_0 (by decide) fl_X10_117 rfl rfl rfl rfl rfl dX10_moves_2 h (fun σ5 h => ?_)
  refine r_aload_n C dX10_moves_5 rfl ?_
  refine bv_e h (fun σ6 hf6 h => ?_)
  refine r_callVv C g_X10_findMoves hc_10 o_124 ml_X10_263 (mX10_findMoves hl hI  hf6) rfl rfl (by exact Nat.le_of_ble_eq_true rfl) ⟨Nat.le_of_ble_eq_true rfl, Nat.le_of_ble_eq_true rfl, Nat.le_of_ble_eq_true rfl⟩ dX10_moves_6 ?_
  refine r_iconst C ic_0 dX10_moves_9 ?_
  refine r_istore_n C (by decide) dX10_moves_10 ?_
  refine r_iconst C ic_0 dX10_moves_11 ?_
  refine r_istore_n C (by decide) dX10_moves_12 ?_
  exact L13 FU _ _ _ _ h
set_option maxHeartbeats 4000000 in
set_option maxRecDepth 100000 in
theorem mX10_move {l : Launch} {D : va_G} {ad : Nat → Nat} {cy : Nat → ClassId} (hl : l.stackTraces = false) (hI : Inj ad)   {σ τ : Mem} {a1 a2 : Int32} {r : Int32} (h : fX10_move σ a1 a2 = some (r, τ)) : Co l D ad cy yX10_move cX10_move 3 (Option.some Jvm.ClassFile.FieldType.int) 8 263 0 [.ref (ad 124), .int a1, .int a2] σ (zi r) τ := by
  refine co_of (av := [.inr 124, .inl a1, .inl a2]) hl hI (by decide +kernel) (Nat.le_of_ble_eq_true rfl) [some (.inr 124), some (.inl a1), some (.inl a2)] rfl (fun V C => ?_)
  have C : Rl l D ad cy RX10 cX10_move 3 (Option.some Jvm.ClassFile.FieldType.int) 8 263 0 (zi r) τ V := C
  refine r_aload_n C dX10_move_0 rfl ?_
  refine bv_e h (fun σ13 hf13 h => ?_)
  refine r_callVv C g_X10_findMoves hc_10 o_124 ml_X10_263 (mX10_findMoves hl hI  hf13) rfl rfl (by exact Nat.le_of_ble_eq_true rfl) ⟨Nat.le_of_ble_eq_true rfl, Nat.le_of_ble_eq_true rfl, Nat.le_of_ble_eq_true rfl⟩ dX10_move_1 ?_
  refine r_iload_n C dX10_move_4 rfl ?_
  refine r_iconst C ic_0 dX10_move_5 ?_
  refine r_aload_n C dX10_move_6 rfl ?_
  refine r_getI C ck_10 f_124_39 (by decide) fl_X10_245 rfl dX10_move_7 ?_
  refine r_iconst C ic_1 dX10_move_10 ?_
  refine r_isub C dX10_move_11 ?_
  refine bd_e h (fun v14 σ14 hf14 h => ?_)
  refine r_callSi C g_X10_isBetween ml_X10_199 (mX10_isBetween hl hI  hf14) rfl rfl (by exact Nat.le_of_ble_eq_true rfl) ⟨Nat.le_of_ble_eq_true rfl, Nat.le_of_ble_eq_true rfl, Nat.le_of_ble_eq_true rfl⟩ dX10_move_12 ?_
  refine r_if_ne C (tgt := 24) h (by decide) dX10_move_15 (fun hc h => ?_) (fun hc h => ?_)
  · refine r_iload_n C dX10_move_24 rfl ?_
    refine r_iconst C ic_0 dX10_move_25 ?_
    refine r_iconst C ic_5 dX10_move_26 ?_
    refine bd_e h (fun v15 σ15 hf15 h => ?_)
    refine r_callSi C g_X10_isBetween ml_X10_199 (mX10_isBetween hl hI  hf15) rfl rfl (by exact Nat.le_of_ble_eq_true rfl) ⟨Nat.le_of_ble_eq_true rfl, Nat.le_of_ble_eq_true rfl, Nat.le_of_ble_eq_true rfl⟩ dX10_move_27 ?_
    refine r_if_ne C (tgt := 39) h (by decide) dX10_move_30 (fun hc h => ?_) (fun hc h => ?_)
    · refine r_aload_n C dX10_move_39 rfl ?_
      refine r_iconst C ic_0 dX10_move_40 ?_
      refine r_putI C ck_10 f_124_0 (by decide) fl_X10_117 rfl rfl rfl rfl rfl dX10_move_41 h (fun σ16 h => ?_)
      refine r_iload_n C dX10_move_44 rfl ?_
      refine sw_e h (fun he0 h => ?_) (fun he0 h => ?_)
      · refine r_tinE C 35 (tgt := 80) dX10_move_45 he0 ⟨by decide, by decide⟩ (by decide) (by decide) ?_
        refine r_aload_n C dX10_move_80 rfl ?_
        refine r_getR C ck_10 f_124_32 (by decide) fl_X10_65 rfl dX10_move_81 ?_
        refine r_iload_n C dX10_move_84 rfl ?_
        obtain ⟨hi, h⟩ := ck_e h
        refine r_iald C i_139 hi dX10_move_85 ?_
        exact r_iret C rfl (Nat.le_of_ble_eq_true rfl) dX10_move_86 (re_i h)
      · refine sw_e h (fun he1 h => ?_) (fun he1 h => ?_)
        · refine r_tinE C 42 (tgt := 87) dX10_move_45 he1 ⟨by decide, by decide⟩ (by decide) (by decide) ?_
          refine r_aload_n C dX10_move_87 rfl ?_
          refine r_getR C ck_10 f_124_33 (by decide) fl_X10_68 rfl dX10_move_88 ?_
          refine r_iload_n C dX10_move_91 rfl ?_
          obtain ⟨hi, h⟩ := ck_e h
          refine r_iald C i_140 hi dX10_move_92 ?_
          exact r_iret C rfl (Nat.le_of_ble_eq_true rfl) dX10_move_93 (re_i h)
        · refine sw_e h (fun he2 h => ?_) (fun he2 h => ?_)
          · refine r_tinE C 49 (tgt := 94) dX10_move_45 he2 ⟨by decide, by decide⟩ (by decide) (by decide) ?_
            refine r_aload_n C dX10_move_94 rfl ?_
            refine r_getR C ck_10 f_124_34 (by decide) fl_X10_71 rfl dX10_move_95 ?_
            refine r_iload_n C dX10_move_98 rfl ?_
            obtain ⟨hi, h⟩ := ck_e h
            refine r_iald C i_141 hi dX10_move_99 ?_
            exact r_iret C rfl (Nat.le_of_ble_eq_true rfl) dX10_move_100 (re_i h)
          · refine sw_e h (fun he3 h => ?_) (fun he3 h => ?_)
            · refine r_tinE C 56 (tgt := 101) dX10_move_45 he3 ⟨by decide, by decide⟩ (by decide) (by decide) ?_
              refine r_aload_n C dX10_move_101 rfl ?_
              refine r_getR C ck_10 f_124_35 (by decide) fl_X10_74 rfl dX10_move_102 ?_
              refine r_iload_n C dX10_move_105 rfl ?_
              obtain ⟨hi, h⟩ := ck_e h
              refine r_iald C i_142 hi dX10_move_106 ?_
              exact r_iret C rfl (Nat.le_of_ble_eq_true rfl) dX10_move_107 (re_i h)
            · refine sw_e h (fun he4 h => ?_) (fun he4 h => ?_)
              · refine r_tinE C 63 (tgt := 108) dX10_move_45 he4 ⟨by decide, by decide⟩ (by decide) (by decide) ?_
                refine r_aload_n C dX10_move_108 rfl ?_
                refine r_getR C ck_10 f_124_36 (by decide) fl_X10_77 rfl dX10_move_109 ?_
                refine r_iload_n C dX10_move_112 rfl ?_
                obtain ⟨hi, h⟩ := ck_e h
                refine r_iald C i_143 hi dX10_move_113 ?_
                exact r_iret C rfl (Nat.le_of_ble_eq_true rfl) dX10_move_114 (re_i h)
              · refine r_tout C (tgt := 115) dX10_move_45 (tout 4 (by decide) (fun j hj => match j, hj with | 0, _ => he0 | 1, _ => he1 | 2, _ => he2 | 3, _ => he3 | 4, _ => he4)) (by decide) ?_
                refine r_aload_n C dX10_move_115 rfl ?_
                refine r_getR C ck_10 f_124_38 (by decide) fl_X10_83 rfl dX10_move_116 ?_
                refine r_iload_n C dX10_move_119 rfl ?_
                obtain ⟨hi, h⟩ := ck_e h
                refine r_zald C i_145 hi dX10_move_120 ?_
                refine r_if_eq C (tgt := 128) h (by decide) dX10_move_121 (fun hc h => ?_) (fun hc h => ?_)
                · refine r_iconst C ic_0 dX10_move_128 ?_
                  exact r_iret C rfl (Nat.le_of_ble_eq_true rfl) dX10_move_129 (re_i h)
                · refine r_iconst C ic_1 dX10_move_124 ?_
                  refine r_goto C (tgt := 129) (by decide) dX10_move_125 ?_
                  exact r_iret C rfl (Nat.le_of_ble_eq_true rfl) dX10_move_129 (re_i h)
    · refine r_aload_n C dX10_move_33 rfl ?_
      refine r_iconst C ic_2 dX10_move_34 ?_
      refine bd_e h (fun v17 σ17 hf17 h => ?_)
      refine r_callVi C g_X10_fails hc_10 o_124 ml_X10_203 (mX10_fails hl hI  hf17) rfl rfl (by exact Nat.le_of_ble_eq_true rfl) ⟨Nat.le_of_ble_eq_true rfl, Nat.le_of_ble_eq_true rfl, Nat.le_of_ble_eq_true rfl⟩ dX10_move_35 ?_
      exact r_iret C rfl (Nat.le_of_ble_eq_true rfl) dX10_move_38 (re_i h)
  · refine r_aload_n C dX10_move_18 rfl ?_
    refine r_iconst C ic_1 dX10_move_19 ?_
    refine bd_e h (fun v18 σ18 hf18 h => ?_)
    refine r_callVi C g_X10_fails hc_10 o_124 ml_X10_203 (mX10_fails hl hI  hf18) rfl rfl (by exact Nat.le_of_ble_eq_true rfl) ⟨Nat.le_of_ble_eq_true rfl, Nat.le_of_ble_eq_true rfl, Nat.le_of_ble_eq_true rfl⟩ dX10_move_20 ?_
    exact r_iret C rfl (Nat.le_of_ble_eq_true rfl) dX10_move_23 (re_i h)
set_option maxHeartbeats 4000000 in
set_option maxRecDepth 100000 in
theorem mX10_leastMove {l : Launch} {D : va_G} {ad : Nat → Nat} {cy : Nat → ClassId} (hl : l.stackTraces = false) (hI : Inj ad)   {σ τ : Mem} {a1 : Int32} {r : Int32} (h : fX10_leastMove σ a1 = some (r, τ)) : Co l D ad cy yX10_leastMove cX10_leastMove 4 (Option.some Jvm.ClassFile.FieldType.int) 8 263 0 [.ref (ad 124), .int a1] σ (zi r) τ := by
  refine co_of (av := [.inr 124, .inl a1]) hl hI (by decide +kernel) (Nat.le_of_ble_eq_true rfl) [some (.inr 124), some (.inl a1), none, none] rfl (fun V C => ?_)
  have C : Rl l D ad cy RX10 cX10_leastMove 4 (Option.some Jvm.ClassFile.FieldType.int) 8 263 0 (zi r) τ V := C
  have L8 : ∀ (n : Nat) (σ : Mem) (l1 l2 l3 : Int32), fX10_leastMove_L8  n σ l1 l2 l3 = some (r, τ) → V 0 σ 8 [some (.inr 124), some (.inl l1), some (.inl l2), some (.inl l3)] [] := by
    intro n8
    induction n8 with
    | zero => intro σ l1 l2 l3 h; exact no_e h
    | succ n8 ih8 =>
      have L53 : ∀ (σ : Mem) (l1 l3 s0 : Int32), fX10_leastMove_L53 (fX10_leastMove_L8  n8)  σ l1 l3 s0 = some (r, τ) → V 0 σ 53 [some (.inr 124), some (.inl l1), none, some (.inl l3)] [.int s0] := by
        intro  σ l1 l3 s0 h
        refine r_istore_n C (by decide) dX10_leastMove_53 ?_
        refine r_iinc C ic_1 (by decide) dX10_leastMove_54 rfl ?_
        refine r_goto C (tgt := 8) (by decide) dX10_leastMove_57 ?_
        exact ih8 _ _ _ _ h
      have L52 : ∀ (σ : Mem) (l1 l2 l3 : Int32), fX10_leastMove_L52 (fX10_leastMove_L8  n8)  σ l1 l2 l3 = some (r, τ) → V 0 σ 52 [some (.inr 124), some (.inl l1), some (.inl l2), some (.inl l3)] [] := by
        intro  σ l1 l2 l3 h
        refine r_iload_n C dX10_leastMove_52 rfl ?_
        refine r_weak C [some (.inr 124), some (.inl l1), none, some (.inl l3)] ⟨rfl, ⟨rfl, ⟨rfl, trivial⟩⟩⟩ ?_
        exact L53 _ _ _ _ h
      have L48 : ∀ (σ : Mem) (l1 l3 : Int32), fX10_leastMove_L48 (fX10_leastMove_L8  n8)  σ l1 l3 = some (r, τ) → V 0 σ 48 [some (.inr 124), some (.inl l1), none, some (.inl l3)] [] := by
        intro  σ l1 l3 h
        refine r_iload_n C dX10_leastMove_48 rfl ?_
        refine r_goto C (tgt := 53) (by decide) dX10_leastMove_49 ?_
        exact L53 _ _ _ _ h
      have L29 : ∀ (σ : Mem) (l1 l2 l3 : Int32), fX10_leastMove_L29 (fX10_leastMove_L8  n8)  σ l1 l2 l3 = some (r, τ) → V 0 σ 29 [some (.inr 124), some (.inl l1), some (.inl l2), some (.inl l3)] [] := by
        intro  σ l1 l2 l3 h
        refine r_iload_n C dX10_leastMove_29 rfl ?_
        refine r_if_lt C (tgt := 48) h (by decide) dX10_leastMove_30 (fun hc h => ?_) (fun hc h => ?_)
        · refine r_weak C [some (.inr 124), some (.inl l1), none, some (.inl l3)] ⟨rfl, ⟨rfl, ⟨rfl, trivial⟩⟩⟩ ?_
          exact L48 _ _ _ h
        · refine r_aload_n C dX10_leastMove_33 rfl ?_
          refine r_getR C ck_10 f_124_36 (by decide) fl_X10_77 rfl dX10_leastMove_34 ?_
          refine r_iload_n C dX10_leastMove_37 rfl ?_
          obtain ⟨hi, h⟩ := ck_e h
          refine r_iald C i_143 hi dX10_leastMove_38 ?_
          refine r_aload_n C dX10_leastMove_39 rfl ?_
          refine r_getR C ck_10 f_124_36 (by decide) fl_X10_77 rfl dX10_leastMove_40 ?_
          refine r_iload_n C dX10_leastMove_43 rfl ?_
          obtain ⟨hi, h⟩ := ck_e h
          refine r_iald C i_143 hi dX10_leastMove_44 ?_
          refine r_ic_ge C (tgt := 52) h (by decide) dX10_leastMove_45 (fun hc h => ?_) (fun hc h => ?_)
          · exact L52 _ _ _ _ h
          · refine r_weak C [some (.inr 124), some (.inl l1), none, some (.inl l3)] ⟨rfl, ⟨rfl, ⟨rfl, trivial⟩⟩⟩ ?_
            exact L48 _ _ _ h
      intro σ l1 l2 l3 h
      have h : fX10_leastMove_B8  (fX10_leastMove_L8  n8) σ l1 l2 l3 = some (r, τ) := h
      refine r_iload_n C dX10_leastMove_8 rfl ?_
      refine r_aload_n C dX10_leastMove_9 rfl ?_
      refine r_getI C ck_10 f_124_39 (by decide) fl_X10_245 rfl dX10_leastMove_10 ?_
      refine r_ic_ge C (tgt := 60) h (by decide) dX10_leastMove_13 (fun hc h => ?_) (fun hc h => ?_)
      · refine r_iload_n C dX10_leastMove_60 rfl ?_
        exact r_iret C rfl (Nat.le_of_ble_eq_true rfl) dX10_leastMove_61 (re_i h)
      · refine r_iload_n C dX10_leastMove_16 rfl ?_
        refine r_if_ne C (tgt := 29) h (by decide) dX10_leastMove_17 (fun hc h => ?_) (fun hc h => ?_)
        · exact L29 _ _ _ _ h
        · refine r_aload_n C dX10_leastMove_20 rfl ?_
          refine r_getR C ck_10 f_124_38 (by decide) fl_X10_83 rfl dX10_leastMove_21 ?_
          refine r_iload_n C dX10_leastMove_24 rfl ?_
          obtain ⟨hi, h⟩ := ck_e h
          refine r_zald C i_145 hi dX10_leastMove_25 ?_
          refine r_if_ne C (tgt := 52) h (by decide) dX10_leastMove_26 (fun hc h => ?_) (fun hc h => ?_)
          · exact L52 _ _ _ _ h
          · exact L29 _ _ _ _ h
  refine r_aload_n C dX10_leastMove_0 rfl ?_
  refine bv_e h (fun σ3 hf3 h => ?_)
  refine r_callVv C g_X10_findMoves hc_10 o_124 ml_X10_263 (mX10_findMoves hl hI  hf3) rfl rfl (by exact Nat.le_of_ble_eq_true rfl) ⟨Nat.le_of_ble_eq_true rfl, Nat.le_of_ble_eq_true rfl, Nat.le_of_ble_eq_true rfl⟩ dX10_leastMove_1 ?_
  refine r_iconst C ic_m1 dX10_leastMove_4 ?_
  refine r_istore_n C (by decide) dX10_leastMove_5 ?_
  refine r_iconst C ic_0 dX10_leastMove_6 ?_
  refine r_istore_n C (by decide) dX10_leastMove_7 ?_
  exact L8 FU _ _ _ _ h
set_option maxHeartbeats 4000000 in
set_option maxRecDepth 100000 in
theorem mX10_nextMove {l : Launch} {D : va_G} {ad : Nat → Nat} {cy : Nat → ClassId} (hl : l.stackTraces = false) (hI : Inj ad)   {σ τ : Mem} {r : Int32} (h : fX10_nextMove σ = some (r, τ)) : Co l D ad cy yX10_nextMove cX10_nextMove 2 (Option.some Jvm.ClassFile.FieldType.int) 9 286 0 [.ref (ad 124)] σ (zi r) τ := by
  refine co_of (av := [.inr 124]) hl hI (by decide +kernel) (Nat.le_of_ble_eq_true rfl) [some (.inr 124), none] rfl (fun V C => ?_)
  have C : Rl l D ad cy RX10 cX10_nextMove 2 (Option.some Jvm.ClassFile.FieldType.int) 9 286 0 (zi r) τ V := C
  refine r_aload_n C dX10_nextMove_0 rfl ?_
  refine r_iconst C ic_0 dX10_nextMove_1 ?_
  refine bd_e h (fun v7 σ7 hf7 h => ?_)
  refine r_callVi C g_X10_leastMove hc_10 o_124 ml_X10_266 (mX10_leastMove hl hI  hf7) rfl rfl (by exact Nat.le_of_ble_eq_true rfl) ⟨Nat.le_of_ble_eq_true rfl, Nat.le_of_ble_eq_true rfl, Nat.le_of_ble_eq_true rfl⟩ dX10_nextMove_2 ?_
  refine r_istore_n C (by decide) dX10_nextMove_5 ?_
  refine r_iload_n C dX10_nextMove_6 rfl ?_
  refine r_if_ge C (tgt := 16) h (by decide) dX10_nextMove_7 (fun hc h => ?_) (fun hc h => ?_)
  · refine r_aload_n C dX10_nextMove_16 rfl ?_
    refine r_iconst C ic_0 dX10_nextMove_17 ?_
    refine r_putI C ck_10 f_124_0 (by decide) fl_X10_117 rfl rfl rfl rfl rfl dX10_nextMove_18 h (fun σ8 h => ?_)
    refine r_iload_n C dX10_nextMove_21 rfl ?_
    exact r_iret C rfl (Nat.le_of_ble_eq_true rfl) dX10_nextMove_22 (re_i h)
  · refine r_aload_n C dX10_nextMove_10 rfl ?_
    refine r_iconst C ic_1 dX10_nextMove_11 ?_
    refine bd_e h (fun v9 σ9 hf9 h => ?_)
    refine r_callVi C g_X10_fails hc_10 o_124 ml_X10_203 (mX10_fails hl hI  hf9) rfl rfl (by exact Nat.le_of_ble_eq_true rfl) ⟨Nat.le_of_ble_eq_true rfl, Nat.le_of_ble_eq_true rfl, Nat.le_of_ble_eq_true rfl⟩ dX10_nextMove_12 ?_
    exact r_iret C rfl (Nat.le_of_ble_eq_true rfl) dX10_nextMove_15 (re_i h)
set_option maxHeartbeats 4000000 in
set_option maxRecDepth 100000 in
theorem mX10_isForbidden {l : Launch} {D : va_G} {ad : Nat → Nat} {cy : Nat → ClassId} (hl : l.stackTraces = false) (hI : Inj ad)   {σ τ : Mem} {a1 a2 : Int32} {r : Int32} (h : fX10_isForbidden σ a1 a2 = some (r, τ)) : Co l D ad cy yX10_isForbidden cX10_isForbidden 3 (Option.some Jvm.ClassFile.FieldType.boolean) 2 122 0 [.ref (ad 124), .int a1, .int a2] σ (zi r) τ := by
  refine co_of (av := [.inr 124, .inl a1, .inl a2]) hl hI (by decide +kernel) (Nat.le_of_ble_eq_true rfl) [some (.inr 124), some (.inl a1), some (.inl a2)] rfl (fun V C => ?_)
  have C : Rl l D ad cy RX10 cX10_isForbidden 3 (Option.some Jvm.ClassFile.FieldType.boolean) 2 122 0 (zi r) τ V := C
  have L50 : ∀ (σ : Mem), fX10_isForbidden_L50   σ  = some (r, τ) → V 0 σ 50 [none, none, none] [] := by
    intro  σ  h
    refine r_iconst C ic_0 dX10_isForbidden_50 ?_
    exact r_zret C rfl (Nat.le_of_ble_eq_true rfl) (Or.inl rfl) dX10_isForbidden_51 (re_i h)
  have L27 : ∀ (σ : Mem) (l1 l2 s1 : Int32), fX10_isForbidden_L27   σ l1 l2 s1 = some (r, τ) → V 0 σ 27 [some (.inr 124), some (.inl l1), some (.inl l2)] [.int s1, .ref (ad 124)] := by
    intro  σ l1 l2 s1 h
    refine r_putI C ck_10 f_124_0 (by decide) fl_X10_117 rfl rfl rfl rfl rfl dX10_isForbidden_27 h (fun σ9 h => ?_)
    refine r_aload_n C dX10_isForbidden_30 rfl ?_
    refine r_getI C ck_10 f_124_0 (by decide) fl_X10_117 rfl dX10_isForbidden_31 ?_
    refine r_if_ne C (tgt := 50) h (by decide) dX10_isForbidden_34 (fun hc h => ?_) (fun hc h => ?_)
    · refine r_weak C [none, none, none] trivial ?_
      exact L50 _ h
    · refine r_aload_n C dX10_isForbidden_37 rfl ?_
      refine r_iload_n C dX10_isForbidden_38 rfl ?_
      refine r_iload_n C dX10_isForbidden_39 rfl ?_
      refine bd_e h (fun v10 σ10 hf10 h => ?_)
      refine r_callVi C g_X10_isForbiddenNow hc_10 o_124 ml_X10_248 (mX10_isForbiddenNow hl hI  hf10) rfl rfl (by exact Nat.le_of_ble_eq_true rfl) ⟨Nat.le_of_ble_eq_true rfl, Nat.le_of_ble_eq_true rfl, Nat.le_of_ble_eq_true rfl⟩ dX10_isForbidden_40 ?_
      refine r_if_eq C (tgt := 50) h (by decide) dX10_isForbidden_43 (fun hc h => ?_) (fun hc h => ?_)
      · refine r_weak C [none, none, none] trivial ?_
        exact L50 _ h
      · refine r_iconst C ic_1 dX10_isForbidden_46 ?_
        refine r_goto C (tgt := 51) (by decide) dX10_isForbidden_47 ?_
        exact r_zret C rfl (Nat.le_of_ble_eq_true rfl) (Or.inr rfl) dX10_isForbidden_51 (re_i h)
  refine r_aload_n C dX10_isForbidden_0 rfl ?_
  refine r_aload_n C dX10_isForbidden_1 rfl ?_
  refine r_iload_n C dX10_isForbidden_2 rfl ?_
  refine bd_e h (fun v11 σ11 hf11 h => ?_)
  refine r_callVi C g_X10_isVariable hc_10 o_124 ml_X10_214 (mX10_isVariable hl hI  hf11) rfl rfl (by exact Nat.le_of_ble_eq_true rfl) ⟨Nat.le_of_ble_eq_true rfl, Nat.le_of_ble_eq_true rfl, Nat.le_of_ble_eq_true rfl⟩ dX10_isForbidden_3 ?_
  refine r_if_ne C (tgt := 13) h (by decide) dX10_isForbidden_6 (fun hc h => ?_) (fun hc h => ?_)
  · refine r_aload_n C dX10_isForbidden_13 rfl ?_
    refine r_iload_n C dX10_isForbidden_14 rfl ?_
    refine r_iload_n C dX10_isForbidden_15 rfl ?_
    refine bd_e h (fun v12 σ12 hf12 h => ?_)
    refine r_callVi C g_X10_isIn hc_10 o_124 ml_X10_231 (mX10_isIn hl hI  hf12) rfl rfl (by exact Nat.le_of_ble_eq_true rfl) ⟨Nat.le_of_ble_eq_true rfl, Nat.le_of_ble_eq_true rfl, Nat.le_of_ble_eq_true rfl⟩ dX10_isForbidden_16 ?_
    refine r_if_ne C (tgt := 26) h (by decide) dX10_isForbidden_19 (fun hc h => ?_) (fun hc h => ?_)
    · refine r_iconst C ic_0 dX10_isForbidden_26 ?_
      exact L27 _ _ _ _ h
    · refine r_iconst C ic_2 dX10_isForbidden_22 ?_
      refine r_goto C (tgt := 27) (by decide) dX10_isForbidden_23 ?_
      exact L27 _ _ _ _ h
  · refine r_iconst C ic_1 dX10_isForbidden_9 ?_
    refine r_goto C (tgt := 27) (by decide) dX10_isForbidden_10 ?_
    exact L27 _ _ _ _ h
set_option maxHeartbeats 4000000 in
set_option maxRecDepth 100000 in
theorem mX10_isLocalOptimum {l : Launch} {D : va_G} {ad : Nat → Nat} {cy : Nat → ClassId} (hl : l.stackTraces = false) (hI : Inj ad)   {σ τ : Mem} {r : Int32} (h : fX10_isLocalOptimum σ = some (r, τ)) : Co l D ad cy yX10_isLocalOptimum cX10_isLocalOptimum 2 (Option.some Jvm.ClassFile.FieldType.boolean) 9 286 0 [.ref (ad 124)] σ (zi r) τ := by
  refine co_of (av := [.inr 124]) hl hI (by decide +kernel) (Nat.le_of_ble_eq_true rfl) [some (.inr 124), none] rfl (fun V C => ?_)
  have C : Rl l D ad cy RX10 cX10_isLocalOptimum 2 (Option.some Jvm.ClassFile.FieldType.boolean) 9 286 0 (zi r) τ V := C
  have L28 : ∀ (σ : Mem), fX10_isLocalOptimum_L28   σ  = some (r, τ) → V 0 σ 28 [none, none] [] := by
    intro  σ  h
    refine r_iconst C ic_1 dX10_isLocalOptimum_28 ?_
    refine r_goto C (tgt := 33) (by decide) dX10_isLocalOptimum_29 ?_
    exact r_zret C rfl (Nat.le_of_ble_eq_true rfl) (Or.inr rfl) dX10_isLocalOptimum_33 (re_i h)
  refine r_aload_n C dX10_isLocalOptimum_0 rfl ?_
  refine r_iconst C ic_0 dX10_isLocalOptimum_1 ?_
  refine r_putI C ck_10 f_124_0 (by decide) fl_X10_117 rfl rfl rfl rfl rfl dX10_isLocalOptimum_2 h (fun σ5 h => ?_)
  refine r_aload_n C dX10_isLocalOptimum_5 rfl ?_
  refine r_iconst C ic_1 dX10_isLocalOptimum_6 ?_
  refine bd_e h (fun v6 σ6 hf6 h => ?_)
  refine r_callVi C g_X10_leastMove hc_10 o_124 ml_X10_266 (mX10_leastMove hl hI  hf6) rfl rfl (by exact Nat.le_of_ble_eq_true rfl) ⟨Nat.le_of_ble_eq_true rfl, Nat.le_of_ble_eq_true rfl, Nat.le_of_ble_eq_true rfl⟩ dX10_isLocalOptimum_7 ?_
  refine r_istore_n C (by decide) dX10_isLocalOptimum_10 ?_
  refine r_iload_n C dX10_isLocalOptimum_11 rfl ?_
  refine r_if_lt C (tgt := 28) h (by decide) dX10_isLocalOptimum_12 (fun hc h => ?_) (fun hc h => ?_)
  · refine r_weak C [none, none] trivial ?_
    exact L28 _ h
  · refine r_aload_n C dX10_isLocalOptimum_15 rfl ?_
    refine r_getR C ck_10 f_124_36 (by decide) fl_X10_77 rfl dX10_isLocalOptimum_16 ?_
    refine r_iload_n C dX10_isLocalOptimum_19 rfl ?_
    obtain ⟨hi, h⟩ := ck_e h
    refine r_iald C i_143 hi dX10_isLocalOptimum_20 ?_
    refine r_aload_n C dX10_isLocalOptimum_21 rfl ?_
    refine r_getI C ck_10 f_124_13 (by decide) fl_X10_147 rfl dX10_isLocalOptimum_22 ?_
    refine r_ic_lt C (tgt := 32) h (by decide) dX10_isLocalOptimum_25 (fun hc h => ?_) (fun hc h => ?_)
    · refine r_iconst C ic_0 dX10_isLocalOptimum_32 ?_
      exact r_zret C rfl (Nat.le_of_ble_eq_true rfl) (Or.inl rfl) dX10_isLocalOptimum_33 (re_i h)
    · refine r_weak C [none, none] trivial ?_
      exact L28 _ h
set_option maxHeartbeats 4000000 in
set_option maxRecDepth 100000 in
theorem mX10_logs {l : Launch} {D : va_G} {ad : Nat → Nat} {cy : Nat → ClassId} (hl : l.stackTraces = false) (hI : Inj ad)   {σ τ : Mem} {a1 : Int32} (h : fX10_logs σ a1 = some τ) : Co l D ad cy yX10_logs cX10_logs 3 (Option.none : Option Jvm.ClassFile.FieldType) 1 100 0 [.ref (ad 124), .int a1] σ (zv) τ := by
  refine co_of (av := [.inr 124, .inl a1]) hl hI (by decide +kernel) (Nat.le_of_ble_eq_true rfl) [some (.inr 124), some (.inl a1), none] rfl (fun V C => ?_)
  have C : Rl l D ad cy RX10 cX10_logs 3 (Option.none : Option Jvm.ClassFile.FieldType) 1 100 0 (zv) τ V := C
  have L53 : ∀ (σ : Mem) (l1 : Int32), fX10_logs_L53   σ l1 = some τ → V 0 σ 53 [some (.inr 124), some (.inl l1), none] [] := by
    intro  σ l1 h
    refine r_bipush C bp_7 dX10_logs_53 ?_
    refine r_aload_n C dX10_logs_55 rfl ?_
    refine r_getI C ck_10 f_124_19 (by decide) fl_X10_172 rfl dX10_logs_56 ?_
    refine r_imul C dX10_logs_59 ?_
    refine r_istore_n C (by decide) dX10_logs_60 ?_
    refine r_aload_n C dX10_logs_61 rfl ?_
    refine r_getR C ck_10 f_124_12 (by decide) fl_X10_37 rfl dX10_logs_62 ?_
    refine r_iload_n C dX10_logs_65 rfl ?_
    refine r_aload_n C dX10_logs_66 rfl ?_
    refine r_getR C ck_10 f_124_32 (by decide) fl_X10_65 rfl dX10_logs_67 ?_
    refine r_iload_n C dX10_logs_70 rfl ?_
    obtain ⟨hi, h⟩ := ck_e h
    refine r_iald C i_139 hi dX10_logs_71 ?_
    obtain ⟨hi, h⟩ := ck_e h
    refine r_iast C i_134 hi dX10_logs_72 h (fun σ21 h => ?_)
    refine r_aload_n C dX10_logs_73 rfl ?_
    refine r_getR C ck_10 f_124_12 (by decide) fl_X10_37 rfl dX10_logs_74 ?_
    refine r_iload_n C dX10_logs_77 rfl ?_
    refine r_iconst C ic_1 dX10_logs_78 ?_
    refine r_iadd C dX10_logs_79 ?_
    refine r_aload_n C dX10_logs_80 rfl ?_
    refine r_getR C ck_10 f_124_33 (by decide) fl_X10_68 rfl dX10_logs_81 ?_
    refine r_iload_n C dX10_logs_84 rfl ?_
    obtain ⟨hi, h⟩ := ck_e h
    refine r_iald C i_140 hi dX10_logs_85 ?_
    obtain ⟨hi, h⟩ := ck_e h
    refine r_iast C i_134 hi dX10_logs_86 h (fun σ22 h => ?_)
    refine r_aload_n C dX10_logs_87 rfl ?_
    refine r_getR C ck_10 f_124_12 (by decide) fl_X10_37 rfl dX10_logs_88 ?_
    refine r_iload_n C dX10_logs_91 rfl ?_
    refine r_iconst C ic_2 dX10_logs_92 ?_
    refine r_iadd C dX10_logs_93 ?_
    refine r_aload_n C dX10_logs_94 rfl ?_
    refine r_getR C ck_10 f_124_34 (by decide) fl_X10_71 rfl dX10_logs_95 ?_
    refine r_iload_n C dX10_logs_98 rfl ?_
    obtain ⟨hi, h⟩ := ck_e h
    refine r_iald C i_141 hi dX10_logs_99 ?_
    obtain ⟨hi, h⟩ := ck_e h
    refine r_iast C i_134 hi dX10_logs_100 h (fun σ23 h => ?_)
    refine r_aload_n C dX10_logs_101 rfl ?_
    refine r_getR C ck_10 f_124_12 (by decide) fl_X10_37 rfl dX10_logs_102 ?_
    refine r_iload_n C dX10_logs_105 rfl ?_
    refine r_iconst C ic_3 dX10_logs_106 ?_
    refine r_iadd C dX10_logs_107 ?_
    refine r_aload_n C dX10_logs_108 rfl ?_
    refine r_getR C ck_10 f_124_35 (by decide) fl_X10_74 rfl dX10_logs_109 ?_
    refine r_iload_n C dX10_logs_112 rfl ?_
    obtain ⟨hi, h⟩ := ck_e h
    refine r_iald C i_142 hi dX10_logs_113 ?_
    obtain ⟨hi, h⟩ := ck_e h
    refine r_iast C i_134 hi dX10_logs_114 h (fun σ24 h => ?_)
    refine r_aload_n C dX10_logs_115 rfl ?_
    refine r_getR C ck_10 f_124_12 (by decide) fl_X10_37 rfl dX10_logs_116 ?_
    refine r_iload_n C dX10_logs_119 rfl ?_
    refine r_iconst C ic_4 dX10_logs_120 ?_
    refine r_iadd C dX10_logs_121 ?_
    refine r_aload_n C dX10_logs_122 rfl ?_
    refine r_getR C ck_10 f_124_36 (by decide) fl_X10_77 rfl dX10_logs_123 ?_
    refine r_iload_n C dX10_logs_126 rfl ?_
    obtain ⟨hi, h⟩ := ck_e h
    refine r_iald C i_143 hi dX10_logs_127 ?_
    obtain ⟨hi, h⟩ := ck_e h
    refine r_iast C i_134 hi dX10_logs_128 h (fun σ25 h => ?_)
    refine r_aload_n C dX10_logs_129 rfl ?_
    refine r_getR C ck_10 f_124_12 (by decide) fl_X10_37 rfl dX10_logs_130 ?_
    refine r_iload_n C dX10_logs_133 rfl ?_
    refine r_iconst C ic_5 dX10_logs_134 ?_
    refine r_iadd C dX10_logs_135 ?_
    refine r_aload_n C dX10_logs_136 rfl ?_
    refine r_getI C ck_10 f_124_15 (by decide) fl_X10_153 rfl dX10_logs_137 ?_
    obtain ⟨hi, h⟩ := ck_e h
    refine r_iast C i_134 hi dX10_logs_140 h (fun σ26 h => ?_)
    refine r_aload_n C dX10_logs_141 rfl ?_
    refine r_getR C ck_10 f_124_12 (by decide) fl_X10_37 rfl dX10_logs_142 ?_
    refine r_iload_n C dX10_logs_145 rfl ?_
    refine r_bipush C bp_6 dX10_logs_146 ?_
    refine r_iadd C dX10_logs_148 ?_
    refine r_aload_n C dX10_logs_149 rfl ?_
    refine r_getI C ck_10 f_124_13 (by decide) fl_X10_147 rfl dX10_logs_150 ?_
    obtain ⟨hi, h⟩ := ck_e h
    refine r_iast C i_134 hi dX10_logs_153 h (fun σ27 h => ?_)
    refine r_aload_n C dX10_logs_154 rfl ?_
    refine r_dup C rfl dX10_logs_155 ?_
    refine r_getI C ck_10 f_124_19 (by decide) fl_X10_172 rfl dX10_logs_156 ?_
    refine r_iconst C ic_1 dX10_logs_159 ?_
    refine r_iadd C dX10_logs_160 ?_
    refine r_putI C ck_10 f_124_19 (by decide) fl_X10_172 rfl rfl rfl rfl rfl dX10_logs_161 h (fun σ28 h => ?_)
    exact r_vret C rfl (Nat.le_of_ble_eq_true rfl) dX10_logs_164 (re_v h)
  have L21 : ∀ (n : Nat) (σ : Mem) (l1 l2 : Int32), fX10_logs_L21  n σ l1 l2 = some τ → V 0 σ 21 [some (.inr 124), some (.inl l1), some (.inl l2)] [] := by
    intro n21
    induction n21 with
    | zero => intro σ l1 l2 h; exact no_e h
    | succ n21 ih21 =>
      intro σ l1 l2 h
      have h : fX10_logs_B21  (fX10_logs_L21  n21) σ l1 l2 = some τ := h
      refine r_iload_n C dX10_logs_21 rfl ?_
      refine r_bipush C bp_7 dX10_logs_22 ?_
      refine r_aload_n C dX10_logs_24 rfl ?_
      refine r_getI C ck_10 f_124_19 (by decide) fl_X10_172 rfl dX10_logs_25 ?_
      refine r_imul C dX10_logs_28 ?_
      refine r_ic_ge C (tgt := 53) h (by decide) dX10_logs_29 (fun hc h => ?_) (fun hc h => ?_)
      · refine r_weak C [some (.inr 124), some (.inl l1), none] ⟨rfl, ⟨rfl, trivial⟩⟩ ?_
        exact L53 _ _ h
      · refine r_aload_n C dX10_logs_32 rfl ?_
        refine r_getR C ck_10 f_124_12 (by decide) fl_X10_37 rfl dX10_logs_33 ?_
        refine r_iload_n C dX10_logs_36 rfl ?_
        refine r_aload_n C dX10_logs_37 rfl ?_
        refine r_getR C ck_10 f_124_12 (by decide) fl_X10_37 rfl dX10_logs_38 ?_
        refine r_iload_n C dX10_logs_41 rfl ?_
        refine r_bipush C bp_7 dX10_logs_42 ?_
        refine r_iadd C dX10_logs_44 ?_
        obtain ⟨hi, h⟩ := ck_e h
        refine r_iald C i_134 hi dX10_logs_45 ?_
        obtain ⟨hi, h⟩ := ck_e h
        refine r_iast C i_134 hi dX10_logs_46 h (fun σ29 h => ?_)
        refine r_iinc C ic_1 (by decide) dX10_logs_47 rfl ?_
        refine r_goto C (tgt := 21) (by decide) dX10_logs_50 ?_
        exact ih21 _ _ _ h
  refine r_aload_n C dX10_logs_0 rfl ?_
  refine r_getI C ck_10 f_124_19 (by decide) fl_X10_172 rfl dX10_logs_1 ?_
  refine r_bipush C bp_40 dX10_logs_4 ?_
  refine r_ic_ne C (tgt := 53) h (by decide) dX10_logs_6 (fun hc h => ?_) (fun hc h => ?_)
  · exact L53 _ _ h
  · refine r_aload_n C dX10_logs_9 rfl ?_
    refine r_dup C rfl dX10_logs_10 ?_
    refine r_getI C ck_10 f_124_19 (by decide) fl_X10_172 rfl dX10_logs_11 ?_
    refine r_iconst C ic_1 dX10_logs_14 ?_
    refine r_isub C dX10_logs_15 ?_
    refine r_putI C ck_10 f_124_19 (by decide) fl_X10_172 rfl rfl rfl rfl rfl dX10_logs_16 h (fun σ30 h => ?_)
    refine r_iconst C ic_0 dX10_logs_19 ?_
    refine r_istore_n C (by decide) dX10_logs_20 ?_
    exact L21 FU _ _ _ h
set_option maxHeartbeats 4000000 in
set_option maxRecDepth 100000 in
theorem mX10_takesMove {l : Launch} {D : va_G} {ad : Nat → Nat} {cy : Nat → ClassId} (hl : l.stackTraces = false) (hI : Inj ad)   {σ τ : Mem} {a1 : Int32} (h : fX10_takesMove σ a1 = some τ) : Co l D ad cy yX10_takesMove cX10_takesMove 3 (Option.none : Option Jvm.ClassFile.FieldType) 6 213 0 [.ref (ad 124), .int a1] σ (zv) τ := by
  refine co_of (av := [.inr 124, .inl a1]) hl hI (by decide +kernel) (Nat.le_of_ble_eq_true rfl) [some (.inr 124), some (.inl a1), none] rfl (fun V C => ?_)
  have C : Rl l D ad cy RX10 cX10_takesMove 3 (Option.none : Option Jvm.ClassFile.FieldType) 6 213 0 (zv) τ V := C
  have L30 : ∀ (n : Nat) (σ : Mem) (l2 : Int32), fX10_takesMove_L30  n σ l2 = some τ → V 0 σ 30 [some (.inr 124), none, some (.inl l2)] [] := by
    intro n30
    induction n30 with
    | zero => intro σ l2 h; exact no_e h
    | succ n30 ih30 =>
      intro σ l2 h
      have h : fX10_takesMove_B30  (fX10_takesMove_L30  n30) σ l2 = some τ := h
      refine r_iload_n C dX10_takesMove_30 rfl ?_
      refine r_aload_n C dX10_takesMove_31 rfl ?_
      refine r_getI C ck_10 f_124_7 (by decide) fl_X10_120 rfl dX10_takesMove_32 ?_
      refine r_ic_ge C (tgt := 56) h (by decide) dX10_takesMove_35 (fun hc h => ?_) (fun hc h => ?_)
      · refine r_aload_n C dX10_takesMove_56 rfl ?_
        refine bv_e h (fun σ7 hf7 h => ?_)
        refine r_callVv C g_X10_counts hc_10 o_124 ml_X10_270 (mX10_counts hl hI  hf7) rfl rfl (by exact Nat.le_of_ble_eq_true rfl) ⟨Nat.le_of_ble_eq_true rfl, Nat.le_of_ble_eq_true rfl, Nat.le_of_ble_eq_true rfl⟩ dX10_takesMove_57 ?_
        exact r_vret C rfl (Nat.le_of_ble_eq_true rfl) dX10_takesMove_60 (re_v h)
      · refine r_aload_n C dX10_takesMove_38 rfl ?_
        refine r_getR C ck_10 f_124_2 (by decide) fl_X10_13 rfl dX10_takesMove_39 ?_
        refine r_iload_n C dX10_takesMove_42 rfl ?_
        refine r_aload_n C dX10_takesMove_43 rfl ?_
        refine r_getR C ck_10 f_124_37 (by decide) fl_X10_80 rfl dX10_takesMove_44 ?_
        refine r_iload_n C dX10_takesMove_47 rfl ?_
        obtain ⟨hi, h⟩ := ck_e h
        refine r_iald C i_144 hi dX10_takesMove_48 ?_
        obtain ⟨hi, h⟩ := ck_e h
        refine r_iast C i_126 hi dX10_takesMove_49 h (fun σ8 h => ?_)
        refine r_iinc C ic_1 (by decide) dX10_takesMove_50 rfl ?_
        refine r_goto C (tgt := 30) (by decide) dX10_takesMove_53 ?_
        exact ih30 _ _ h
  refine r_aload_n C dX10_takesMove_0 rfl ?_
  refine r_aload_n C dX10_takesMove_1 rfl ?_
  refine r_getR C ck_10 f_124_32 (by decide) fl_X10_65 rfl dX10_takesMove_2 ?_
  refine r_iload_n C dX10_takesMove_5 rfl ?_
  obtain ⟨hi, h⟩ := ck_e h
  refine r_iald C i_139 hi dX10_takesMove_6 ?_
  refine r_aload_n C dX10_takesMove_7 rfl ?_
  refine r_getR C ck_10 f_124_33 (by decide) fl_X10_68 rfl dX10_takesMove_8 ?_
  refine r_iload_n C dX10_takesMove_11 rfl ?_
  obtain ⟨hi, h⟩ := ck_e h
  refine r_iald C i_140 hi dX10_takesMove_12 ?_
  refine r_aload_n C dX10_takesMove_13 rfl ?_
  refine r_getR C ck_10 f_124_34 (by decide) fl_X10_71 rfl dX10_takesMove_14 ?_
  refine r_iload_n C dX10_takesMove_17 rfl ?_
  obtain ⟨hi, h⟩ := ck_e h
  refine r_iald C i_141 hi dX10_takesMove_18 ?_
  refine r_aload_n C dX10_takesMove_19 rfl ?_
  refine r_getR C ck_10 f_124_35 (by decide) fl_X10_74 rfl dX10_takesMove_20 ?_
  refine r_iload_n C dX10_takesMove_23 rfl ?_
  obtain ⟨hi, h⟩ := ck_e h
  refine r_iald C i_142 hi dX10_takesMove_24 ?_
  refine bv_e h (fun σ9 hf9 h => ?_)
  refine r_callVv C g_X10_findThen hc_10 o_124 ml_X10_242 (mX10_findThen hl hI  hf9) rfl rfl (by exact Nat.le_of_ble_eq_true rfl) ⟨Nat.le_of_ble_eq_true rfl, Nat.le_of_ble_eq_true rfl, Nat.le_of_ble_eq_true rfl⟩ dX10_takesMove_25 ?_
  refine r_iconst C ic_0 dX10_takesMove_28 ?_
  refine r_istore_n C (by decide) dX10_takesMove_29 ?_
  refine r_weak C [some (.inr 124), none, some (.inl (0 : Int32))] ⟨rfl, ⟨rfl, trivial⟩⟩ ?_
  exact L30 FU _ _ h
set_option maxHeartbeats 4000000 in
set_option maxRecDepth 100000 in
theorem mX10_restarts {l : Launch} {D : va_G} {ad : Nat → Nat} {cy : Nat → ClassId} (hl : l.stackTraces = false) (hI : Inj ad)   {σ τ : Mem} (h : fX10_restarts σ = some τ) : Co l D ad cy yX10_restarts cX10_restarts 2 (Option.none : Option Jvm.ClassFile.FieldType) 6 213 0 [.ref (ad 124)] σ (zv) τ := by
  refine co_of (av := [.inr 124]) hl hI (by decide +kernel) (Nat.le_of_ble_eq_true rfl) [some (.inr 124), none] rfl (fun V C => ?_)
  have C : Rl l D ad cy RX10 cX10_restarts 2 (Option.none : Option Jvm.ClassFile.FieldType) 6 213 0 (zv) τ V := C
  have L2 : ∀ (n : Nat) (σ : Mem) (l1 : Int32), fX10_restarts_L2  n σ l1 = some τ → V 0 σ 2 [some (.inr 124), some (.inl l1)] [] := by
    intro n2
    induction n2 with
    | zero => intro σ l1 h; exact no_e h
    | succ n2 ih2 =>
      intro σ l1 h
      have h : fX10_restarts_B2  (fX10_restarts_L2  n2) σ l1 = some τ := h
      refine r_iload_n C dX10_restarts_2 rfl ?_
      refine r_aload_n C dX10_restarts_3 rfl ?_
      refine r_getI C ck_10 f_124_7 (by decide) fl_X10_120 rfl dX10_restarts_4 ?_
      refine r_ic_ge C (tgt := 55) h (by decide) dX10_restarts_7 (fun hc h => ?_) (fun hc h => ?_)
      · refine r_aload_n C dX10_restarts_55 rfl ?_
        refine bv_e h (fun σ13 hf13 h => ?_)
        refine r_callVv C g_X10_allowsAll hc_10 o_124 ml_X10_175 (mX10_allowsAll hl hI  hf13) rfl rfl (by exact Nat.le_of_ble_eq_true rfl) ⟨Nat.le_of_ble_eq_true rfl, Nat.le_of_ble_eq_true rfl, Nat.le_of_ble_eq_true rfl⟩ dX10_restarts_56 ?_
        refine r_aload_n C dX10_restarts_59 rfl ?_
        refine r_iconst C ic_0 dX10_restarts_60 ?_
        refine r_putI C ck_10 f_124_16 (by decide) fl_X10_166 rfl rfl rfl rfl rfl dX10_restarts_61 h (fun σ14 h => ?_)
        refine r_aload_n C dX10_restarts_64 rfl ?_
        refine r_dup C rfl dX10_restarts_65 ?_
        refine r_getI C ck_10 f_124_17 (by decide) fl_X10_169 rfl dX10_restarts_66 ?_
        refine r_iconst C ic_1 dX10_restarts_69 ?_
        refine r_iadd C dX10_restarts_70 ?_
        refine r_putI C ck_10 f_124_17 (by decide) fl_X10_169 rfl rfl rfl rfl rfl dX10_restarts_71 h (fun σ15 h => ?_)
        refine r_aload_n C dX10_restarts_74 rfl ?_
        refine bv_e h (fun σ16 hf16 h => ?_)
        refine r_callVv C g_X10_counts hc_10 o_124 ml_X10_270 (mX10_counts hl hI  hf16) rfl rfl (by exact Nat.le_of_ble_eq_true rfl) ⟨Nat.le_of_ble_eq_true rfl, Nat.le_of_ble_eq_true rfl, Nat.le_of_ble_eq_true rfl⟩ dX10_restarts_75 ?_
        exact r_vret C rfl (Nat.le_of_ble_eq_true rfl) dX10_restarts_78 (re_v h)
      · refine r_aload_n C dX10_restarts_10 rfl ?_
        refine r_aload_n C dX10_restarts_11 rfl ?_
        refine r_getI C ck_10 f_124_23 (by decide) fl_X10_50 rfl dX10_restarts_12 ?_
        refine r_ldcw C kc_X10_273 dX10_restarts_15 ?_
        refine r_imul C dX10_restarts_18 ?_
        refine r_sipush C sp_12345 dX10_restarts_19 ?_
        refine r_iadd C dX10_restarts_22 ?_
        refine r_ldc C kc_X10_241 dX10_restarts_23 ?_
        refine r_iand C dX10_restarts_25 ?_
        refine r_putI C ck_10 f_124_23 (by decide) fl_X10_50 rfl rfl rfl rfl rfl dX10_restarts_26 h (fun σ17 h => ?_)
        refine r_aload_n C dX10_restarts_29 rfl ?_
        refine r_getR C ck_10 f_124_2 (by decide) fl_X10_13 rfl dX10_restarts_30 ?_
        refine r_iload_n C dX10_restarts_33 rfl ?_
        refine r_aload_n C dX10_restarts_34 rfl ?_
        refine r_getI C ck_10 f_124_23 (by decide) fl_X10_50 rfl dX10_restarts_35 ?_
        refine r_bipush C bp_16 dX10_restarts_38 ?_
        refine r_ishr C dX10_restarts_40 ?_
        refine r_aload_n C dX10_restarts_41 rfl ?_
        refine r_getR C ck_10 f_124_1 (by decide) fl_X10_7 rfl dX10_restarts_42 ?_
        refine r_iload_n C dX10_restarts_45 rfl ?_
        obtain ⟨hi, h⟩ := ck_e h
        refine r_iald C i_125 hi dX10_restarts_46 ?_
        obtain ⟨hy, h⟩ := ckn_e h
        refine r_irem C dX10_restarts_47 hy ?_
        obtain ⟨hi, h⟩ := ck_e h
        refine r_iast C i_126 hi dX10_restarts_48 h (fun σ18 h => ?_)
        refine r_iinc C ic_1 (by decide) dX10_restarts_49 rfl ?_
        refine r_goto C (tgt := 2) (by decide) dX10_restarts_52 ?_
        exact ih2 _ _ h
  refine r_iconst C ic_0 dX10_restarts_0 ?_
  refine r_istore_n C (by decide) dX10_restarts_1 ?_
  exact L2 FU _ _ h
set_option maxHeartbeats 4000000 in
set_option maxRecDepth 100000 in
theorem mX10_steps {l : Launch} {D : va_G} {ad : Nat → Nat} {cy : Nat → ClassId} (hl : l.stackTraces = false) (hI : Inj ad)   {σ τ : Mem} {r : Int32} (h : fX10_steps σ = some (r, τ)) : Co l D ad cy yX10_steps cX10_steps 4 (Option.some Jvm.ClassFile.FieldType.boolean) 9 286 0 [.ref (ad 124)] σ (zi r) τ := by
  refine co_of (av := [.inr 124]) hl hI (by decide +kernel) (Nat.le_of_ble_eq_true rfl) [some (.inr 124), none, none, none] rfl (fun V C => ?_)
  have C : Rl l D ad cy RX10 cX10_steps 4 (Option.some Jvm.ClassFile.FieldType.boolean) 9 286 0 (zi r) τ V := C
  have L178 : ∀ (σ : Mem), fX10_steps_L178   σ  = some (r, τ) → V 0 σ 178 [none, none, none, none] [] := by
    intro  σ  h
    refine r_iconst C ic_1 dX10_steps_178 ?_
    exact r_zret C rfl (Nat.le_of_ble_eq_true rfl) (Or.inr rfl) dX10_steps_179 (re_i h)
  have L160 : ∀ (σ : Mem) (s1 : Int32), fX10_steps_L160   σ s1 = some (r, τ) → V 0 σ 160 [some (.inr 124), none, none, none] [.int s1, .ref (ad 124)] := by
    intro  σ s1 h
    refine r_putI C ck_10 f_124_16 (by decide) fl_X10_166 rfl rfl rfl rfl rfl dX10_steps_160 h (fun σ19 h => ?_)
    refine r_aload_n C dX10_steps_163 rfl ?_
    refine r_getI C ck_10 f_124_16 (by decide) fl_X10_166 rfl dX10_steps_164 ?_
    refine r_aload_n C dX10_steps_167 rfl ?_
    refine r_getI C ck_10 f_124_22 (by decide) fl_X10_47 rfl dX10_steps_168 ?_
    refine r_ic_lt C (tgt := 178) h (by decide) dX10_steps_171 (fun hc h => ?_) (fun hc h => ?_)
    · refine r_weak C [none, none, none, none] trivial ?_
      exact L178 _ h
    · refine r_aload_n C dX10_steps_174 rfl ?_
      refine bv_e h (fun σ20 hf20 h => ?_)
      refine r_callVv C g_X10_restarts hc_10 o_124 ml_X10_280 (mX10_restarts hl hI  hf20) rfl rfl (by exact Nat.le_of_ble_eq_true rfl) ⟨Nat.le_of_ble_eq_true rfl, Nat.le_of_ble_eq_true rfl, Nat.le_of_ble_eq_true rfl⟩ dX10_steps_175 ?_
      refine r_weak C [none, none, none, none] trivial ?_
      exact L178 _ h
  have L57 : ∀ (n : Nat) (σ : Mem) (l1 l2 : Int32), fX10_steps_L57  n σ l1 l2 = some (r, τ) → V 0 σ 57 [some (.inr 124), some (.inl l1), some (.inl l2), none] [] := by
    intro n57
    induction n57 with
    | zero => intro σ l1 l2 h; exact no_e h
    | succ n57 ih57 =>
      have L125 : ∀ (σ : Mem) (l1 l2 : Int32), fX10_steps_L125 (fX10_steps_L57  n57)  σ l1 l2 = some (r, τ) → V 0 σ 125 [some (.inr 124), some (.inl l1), some (.inl l2), none] [] := by
        intro  σ l1 l2 h
        refine r_iinc C ic_1 (by decide) dX10_steps_125 rfl ?_
        refine r_goto C (tgt := 57) (by decide) dX10_steps_128 ?_
        exact ih57 _ _ _ h
      intro σ l1 l2 h
      have h : fX10_steps_B57  (fX10_steps_L57  n57) σ l1 l2 = some (r, τ) := h
      refine r_iload_n C dX10_steps_57 rfl ?_
      refine r_aload_n C dX10_steps_58 rfl ?_
      refine r_getI C ck_10 f_124_7 (by decide) fl_X10_120 rfl dX10_steps_59 ?_
      refine r_ic_ge C (tgt := 131) h (by decide) dX10_steps_62 (fun hc h => ?_) (fun hc h => ?_)
      · refine r_aload_n C dX10_steps_131 rfl ?_
        refine r_getI C ck_10 f_124_14 (by decide) fl_X10_150 rfl dX10_steps_132 ?_
        refine r_istore_n C (by decide) dX10_steps_135 ?_
        refine r_aload_n C dX10_steps_136 rfl ?_
        refine r_iload_n C dX10_steps_137 rfl ?_
        refine bv_e h (fun σ21 hf21 h => ?_)
        refine r_callVv C g_X10_takesMove hc_10 o_124 ml_X10_277 (mX10_takesMove hl hI  hf21) rfl rfl (by exact Nat.le_of_ble_eq_true rfl) ⟨Nat.le_of_ble_eq_true rfl, Nat.le_of_ble_eq_true rfl, Nat.le_of_ble_eq_true rfl⟩ dX10_steps_138 ?_
        refine r_aload_n C dX10_steps_141 rfl ?_
        refine r_aload_n C dX10_steps_142 rfl ?_
        refine r_getI C ck_10 f_124_14 (by decide) fl_X10_150 rfl dX10_steps_143 ?_
        refine r_iload_n C dX10_steps_146 rfl ?_
        refine r_ic_ge C (tgt := 154) h (by decide) dX10_steps_147 (fun hc h => ?_) (fun hc h => ?_)
        · refine r_aload_n C dX10_steps_154 rfl ?_
          refine r_getI C ck_10 f_124_16 (by decide) fl_X10_166 rfl dX10_steps_155 ?_
          refine r_iconst C ic_1 dX10_steps_158 ?_
          refine r_iadd C dX10_steps_159 ?_
          refine r_weak C [some (.inr 124), none, none, none] ⟨rfl, trivial⟩ ?_
          exact L160 _ _ h
        · refine r_iconst C ic_0 dX10_steps_150 ?_
          refine r_goto C (tgt := 160) (by decide) dX10_steps_151 ?_
          refine r_weak C [some (.inr 124), none, none, none] ⟨rfl, trivial⟩ ?_
          exact L160 _ _ h
      · refine r_bipush C bp_8 dX10_steps_65 ?_
        refine r_iload_n C dX10_steps_67 rfl ?_
        refine r_imul C dX10_steps_68 ?_
        refine r_aload_n C dX10_steps_69 rfl ?_
        refine r_getR C ck_10 f_124_2 (by decide) fl_X10_13 rfl dX10_steps_70 ?_
        refine r_iload_n C dX10_steps_73 rfl ?_
        obtain ⟨hi, h⟩ := ck_e h
        refine r_iald C i_126 hi dX10_steps_74 ?_
        refine r_iadd C dX10_steps_75 ?_
        refine r_istoreL_n C h (by decide) dX10_steps_76 (fun x22 h => ?_)
        refine r_aload_n C dX10_steps_77 rfl ?_
        refine r_getR C ck_10 f_124_37 (by decide) fl_X10_80 rfl dX10_steps_78 ?_
        refine r_iload_n C dX10_steps_81 rfl ?_
        obtain ⟨hi, h⟩ := ck_e h
        refine r_iald C i_144 hi dX10_steps_82 ?_
        refine r_aload_n C dX10_steps_83 rfl ?_
        refine r_getR C ck_10 f_124_2 (by decide) fl_X10_13 rfl dX10_steps_84 ?_
        refine r_iload_n C dX10_steps_87 rfl ?_
        obtain ⟨hi, h⟩ := ck_e h
        refine r_iald C i_126 hi dX10_steps_88 ?_
        refine r_ic_eq C (tgt := 125) h (by decide) dX10_steps_89 (fun hc h => ?_) (fun hc h => ?_)
        · refine r_weak C [some (.inr 124), some (.inl l1), some (.inl l2), none] ⟨rfl, ⟨rfl, ⟨rfl, trivial⟩⟩⟩ ?_
          exact L125 _ _ _ h
        · refine r_aload_n C dX10_steps_92 rfl ?_
          refine r_getI C ck_10 f_124_15 (by decide) fl_X10_153 rfl dX10_steps_93 ?_
          refine r_aload_n C dX10_steps_96 rfl ?_
          refine r_getI C ck_10 f_124_21 (by decide) fl_X10_44 rfl dX10_steps_97 ?_
          refine r_iadd C dX10_steps_100 ?_
          refine r_aload_n C dX10_steps_101 rfl ?_
          refine r_getR C ck_10 f_124_11 (by decide) fl_X10_34 rfl dX10_steps_102 ?_
          refine r_iload_n C dX10_steps_105 rfl ?_
          obtain ⟨hi, h⟩ := ck_e h
          refine r_iald C i_133 hi dX10_steps_106 ?_
          refine r_ic_le C (tgt := 125) h (by decide) dX10_steps_107 (fun hc h => ?_) (fun hc h => ?_)
          · refine r_weak C [some (.inr 124), some (.inl l1), some (.inl l2), none] ⟨rfl, ⟨rfl, ⟨rfl, trivial⟩⟩⟩ ?_
            exact L125 _ _ _ h
          · refine r_aload_n C dX10_steps_110 rfl ?_
            refine r_getR C ck_10 f_124_11 (by decide) fl_X10_34 rfl dX10_steps_111 ?_
            refine r_iload_n C dX10_steps_114 rfl ?_
            refine r_aload_n C dX10_steps_115 rfl ?_
            refine r_getI C ck_10 f_124_15 (by decide) fl_X10_153 rfl dX10_steps_116 ?_
            refine r_aload_n C dX10_steps_119 rfl ?_
            refine r_getI C ck_10 f_124_21 (by decide) fl_X10_44 rfl dX10_steps_120 ?_
            refine r_iadd C dX10_steps_123 ?_
            obtain ⟨hi, h⟩ := ck_e h
            refine r_iast C i_133 hi dX10_steps_124 h (fun σ23 h => ?_)
            refine r_weak C [some (.inr 124), some (.inl l1), some (.inl l2), none] ⟨rfl, ⟨rfl, ⟨rfl, trivial⟩⟩⟩ ?_
            exact L125 _ _ _ h
  refine r_aload_n C dX10_steps_0 rfl ?_
  refine r_iconst C ic_0 dX10_steps_1 ?_
  refine bd_e h (fun v24 σ24 hf24 h => ?_)
  refine r_callVi C g_X10_leastMove hc_10 o_124 ml_X10_266 (mX10_leastMove hl hI  hf24) rfl rfl (by exact Nat.le_of_ble_eq_true rfl) ⟨Nat.le_of_ble_eq_true rfl, Nat.le_of_ble_eq_true rfl, Nat.le_of_ble_eq_true rfl⟩ dX10_steps_2 ?_
  refine r_istore_n C (by decide) dX10_steps_5 ?_
  refine r_iload_n C dX10_steps_6 rfl ?_
  refine r_if_ge C (tgt := 12) h (by decide) dX10_steps_7 (fun hc h => ?_) (fun hc h => ?_)
  · refine r_aload_n C dX10_steps_12 rfl ?_
    refine r_dup C rfl dX10_steps_13 ?_
    refine r_getI C ck_10 f_124_15 (by decide) fl_X10_153 rfl dX10_steps_14 ?_
    refine r_iconst C ic_1 dX10_steps_17 ?_
    refine r_iadd C dX10_steps_18 ?_
    refine r_putI C ck_10 f_124_15 (by decide) fl_X10_153 rfl rfl rfl rfl rfl dX10_steps_19 h (fun σ25 h => ?_)
    refine r_aload_n C dX10_steps_22 rfl ?_
    refine r_iload_n C dX10_steps_23 rfl ?_
    refine bv_e h (fun σ26 hf26 h => ?_)
    refine r_callVv C g_X10_logs hc_10 o_124 ml_X10_274 (mX10_logs hl hI  hf26) rfl rfl (by exact Nat.le_of_ble_eq_true rfl) ⟨Nat.le_of_ble_eq_true rfl, Nat.le_of_ble_eq_true rfl, Nat.le_of_ble_eq_true rfl⟩ dX10_steps_24 ?_
    refine r_aload_n C dX10_steps_27 rfl ?_
    refine r_aload_n C dX10_steps_28 rfl ?_
    refine r_getR C ck_10 f_124_32 (by decide) fl_X10_65 rfl dX10_steps_29 ?_
    refine r_iload_n C dX10_steps_32 rfl ?_
    obtain ⟨hi, h⟩ := ck_e h
    refine r_iald C i_139 hi dX10_steps_33 ?_
    refine r_aload_n C dX10_steps_34 rfl ?_
    refine r_getR C ck_10 f_124_33 (by decide) fl_X10_68 rfl dX10_steps_35 ?_
    refine r_iload_n C dX10_steps_38 rfl ?_
    obtain ⟨hi, h⟩ := ck_e h
    refine r_iald C i_140 hi dX10_steps_39 ?_
    refine r_aload_n C dX10_steps_40 rfl ?_
    refine r_getR C ck_10 f_124_34 (by decide) fl_X10_71 rfl dX10_steps_41 ?_
    refine r_iload_n C dX10_steps_44 rfl ?_
    obtain ⟨hi, h⟩ := ck_e h
    refine r_iald C i_141 hi dX10_steps_45 ?_
    refine r_aload_n C dX10_steps_46 rfl ?_
    refine r_getR C ck_10 f_124_35 (by decide) fl_X10_74 rfl dX10_steps_47 ?_
    refine r_iload_n C dX10_steps_50 rfl ?_
    obtain ⟨hi, h⟩ := ck_e h
    refine r_iald C i_142 hi dX10_steps_51 ?_
    refine bv_e h (fun σ27 hf27 h => ?_)
    refine r_callVv C g_X10_findThen hc_10 o_124 ml_X10_242 (mX10_findThen hl hI  hf27) rfl rfl (by exact Nat.le_of_ble_eq_true rfl) ⟨Nat.le_of_ble_eq_true rfl, Nat.le_of_ble_eq_true rfl, Nat.le_of_ble_eq_true rfl⟩ dX10_steps_52 ?_
    refine r_iconst C ic_0 dX10_steps_55 ?_
    refine r_istore_n C (by decide) dX10_steps_56 ?_
    exact L57 FU _ _ _ h
  · refine r_iconst C ic_0 dX10_steps_10 ?_
    exact r_zret C rfl (Nat.le_of_ble_eq_true rfl) (Or.inl rfl) dX10_steps_11 (re_i h)
set_option maxHeartbeats 4000000 in
set_option maxRecDepth 100000 in
theorem mX10_step {l : Launch} {D : va_G} {ad : Nat → Nat} {cy : Nat → ClassId} (hl : l.stackTraces = false) (hI : Inj ad)   {σ τ : Mem} {r : Int32} (h : fX10_step σ = some (r, τ)) : Co l D ad cy yX10_step cX10_step 1 (Option.some Jvm.ClassFile.FieldType.int) 10 309 0 [.ref (ad 124)] σ (zi r) τ := by
  refine co_of (av := [.inr 124]) hl hI (by decide +kernel) (Nat.le_of_ble_eq_true rfl) [some (.inr 124)] rfl (fun V C => ?_)
  have C : Rl l D ad cy RX10 cX10_step 1 (Option.some Jvm.ClassFile.FieldType.int) 10 309 0 (zi r) τ V := C
  refine r_aload_n C dX10_step_0 rfl ?_
  refine bd_e h (fun v7 σ7 hf7 h => ?_)
  refine r_callVi C g_X10_steps hc_10 o_124 ml_X10_282 (mX10_steps hl hI  hf7) rfl rfl (by exact Nat.le_of_ble_eq_true rfl) ⟨Nat.le_of_ble_eq_true rfl, Nat.le_of_ble_eq_true rfl, Nat.le_of_ble_eq_true rfl⟩ dX10_step_1 ?_
  refine r_if_ne C (tgt := 13) h (by decide) dX10_step_4 (fun hc h => ?_) (fun hc h => ?_)
  · refine r_aload_n C dX10_step_13 rfl ?_
    refine r_iconst C ic_0 dX10_step_14 ?_
    refine r_putI C ck_10 f_124_0 (by decide) fl_X10_117 rfl rfl rfl rfl rfl dX10_step_15 h (fun σ8 h => ?_)
    refine r_aload_n C dX10_step_18 rfl ?_
    refine r_getI C ck_10 f_124_13 (by decide) fl_X10_147 rfl dX10_step_19 ?_
    exact r_iret C rfl (Nat.le_of_ble_eq_true rfl) dX10_step_22 (re_i h)
  · refine r_aload_n C dX10_step_7 rfl ?_
    refine r_iconst C ic_1 dX10_step_8 ?_
    refine bd_e h (fun v9 σ9 hf9 h => ?_)
    refine r_callVi C g_X10_fails hc_10 o_124 ml_X10_203 (mX10_fails hl hI  hf9) rfl rfl (by exact Nat.le_of_ble_eq_true rfl) ⟨Nat.le_of_ble_eq_true rfl, Nat.le_of_ble_eq_true rfl, Nat.le_of_ble_eq_true rfl⟩ dX10_step_9 ?_
    exact r_iret C rfl (Nat.le_of_ble_eq_true rfl) dX10_step_12 (re_i h)
set_option maxHeartbeats 4000000 in
set_option maxRecDepth 100000 in
theorem mX10_run {l : Launch} {D : va_G} {ad : Nat → Nat} {cy : Nat → ClassId} (hl : l.stackTraces = false) (hI : Inj ad)   {σ τ : Mem} {a1 : Int32} {r : Int32} (h : fX10_run σ a1 = some (r, τ)) : Co l D ad cy yX10_run cX10_run 3 (Option.some Jvm.ClassFile.FieldType.int) 10 309 0 [.ref (ad 124), .int a1] σ (zi r) τ := by
  refine co_of (av := [.inr 124, .inl a1]) hl hI (by decide +kernel) (Nat.le_of_ble_eq_true rfl) [some (.inr 124), some (.inl a1), none] rfl (fun V C => ?_)
  have C : Rl l D ad cy RX10 cX10_run 3 (Option.some Jvm.ClassFile.FieldType.int) 10 309 0 (zi r) τ V := C
  have L48 : ∀ (σ : Mem) (l2 : Int32), fX10_run_L48   σ l2 = some (r, τ) → V 0 σ 48 [none, none, some (.inl l2)] [] := by
    intro  σ l2 h
    refine r_iload_n C dX10_run_48 rfl ?_
    exact r_iret C rfl (Nat.le_of_ble_eq_true rfl) dX10_run_49 (re_i h)
  have L23 : ∀ (n : Nat) (σ : Mem) (l1 l2 : Int32), fX10_run_L23  n σ l1 l2 = some (r, τ) → V 0 σ 23 [some (.inr 124), some (.inl l1), some (.inl l2)] [] := by
    intro n23
    induction n23 with
    | zero => intro σ l1 l2 h; exact no_e h
    | succ n23 ih23 =>
      intro σ l1 l2 h
      have h : fX10_run_B23  (fX10_run_L23  n23) σ l1 l2 = some (r, τ) := h
      refine r_iload_n C dX10_run_23 rfl ?_
      refine r_iload_n C dX10_run_24 rfl ?_
      refine r_ic_ge C (tgt := 48) h (by decide) dX10_run_25 (fun hc h => ?_) (fun hc h => ?_)
      · refine r_weak C [none, none, some (.inl l2)] ⟨rfl, trivial⟩ ?_
        exact L48 _ _ h
      · refine r_aload_n C dX10_run_28 rfl ?_
        refine r_getI C ck_10 f_124_13 (by decide) fl_X10_147 rfl dX10_run_29 ?_
        refine r_if_le C (tgt := 48) h (by decide) dX10_run_32 (fun hc h => ?_) (fun hc h => ?_)
        · refine r_weak C [none, none, some (.inl l2)] ⟨rfl, trivial⟩ ?_
          exact L48 _ _ h
        · refine r_aload_n C dX10_run_35 rfl ?_
          refine bd_e h (fun v9 σ9 hf9 h => ?_)
          refine r_callVi C g_X10_steps hc_10 o_124 ml_X10_282 (mX10_steps hl hI  hf9) rfl rfl (by exact Nat.le_of_ble_eq_true rfl) ⟨Nat.le_of_ble_eq_true rfl, Nat.le_of_ble_eq_true rfl, Nat.le_of_ble_eq_true rfl⟩ dX10_run_36 ?_
          refine r_if_eq C (tgt := 48) h (by decide) dX10_run_39 (fun hc h => ?_) (fun hc h => ?_)
          · refine r_weak C [none, none, some (.inl l2)] ⟨rfl, trivial⟩ ?_
            exact L48 _ _ h
          · refine r_iinc C ic_1 (by decide) dX10_run_42 rfl ?_
            refine r_goto C (tgt := 23) (by decide) dX10_run_45 ?_
            exact ih23 _ _ _ h
  refine r_iload_n C dX10_run_0 rfl ?_
  refine r_iconst C ic_1 dX10_run_1 ?_
  refine r_bipush C bp_30 dX10_run_2 ?_
  refine bd_e h (fun v10 σ10 hf10 h => ?_)
  refine r_callSi C g_X10_isBetween ml_X10_199 (mX10_isBetween hl hI  hf10) rfl rfl (by exact Nat.le_of_ble_eq_true rfl) ⟨Nat.le_of_ble_eq_true rfl, Nat.le_of_ble_eq_true rfl, Nat.le_of_ble_eq_true rfl⟩ dX10_run_4 ?_
  refine r_if_ne C (tgt := 16) h (by decide) dX10_run_7 (fun hc h => ?_) (fun hc h => ?_)
  · refine r_aload_n C dX10_run_16 rfl ?_
    refine r_iconst C ic_0 dX10_run_17 ?_
    refine r_putI C ck_10 f_124_0 (by decide) fl_X10_117 rfl rfl rfl rfl rfl dX10_run_18 h (fun σ11 h => ?_)
    refine r_iconst C ic_0 dX10_run_21 ?_
    refine r_istore_n C (by decide) dX10_run_22 ?_
    exact L23 FU _ _ _ h
  · refine r_aload_n C dX10_run_10 rfl ?_
    refine r_iconst C ic_1 dX10_run_11 ?_
    refine bd_e h (fun v12 σ12 hf12 h => ?_)
    refine r_callVi C g_X10_fails hc_10 o_124 ml_X10_203 (mX10_fails hl hI  hf12) rfl rfl (by exact Nat.le_of_ble_eq_true rfl) ⟨Nat.le_of_ble_eq_true rfl, Nat.le_of_ble_eq_true rfl, Nat.le_of_ble_eq_true rfl⟩ dX10_run_12 ?_
    exact r_iret C rfl (Nat.le_of_ble_eq_true rfl) dX10_run_15 (re_i h)
set_option maxHeartbeats 4000000 in
set_option maxRecDepth 100000 in
theorem mX10_descend {l : Launch} {D : va_G} {ad : Nat → Nat} {cy : Nat → ClassId} (hl : l.stackTraces = false) (hI : Inj ad)   {σ τ : Mem} {r : Int32} (h : fX10_descend σ = some (r, τ)) : Co l D ad cy yX10_descend cX10_descend 3 (Option.some Jvm.ClassFile.FieldType.int) 9 286 0 [.ref (ad 124)] σ (zi r) τ := by
  refine co_of (av := [.inr 124]) hl hI (by decide +kernel) (Nat.le_of_ble_eq_true rfl) [some (.inr 124), none, none] rfl (fun V C => ?_)
  have C : Rl l D ad cy RX10 cX10_descend 3 (Option.some Jvm.ClassFile.FieldType.int) 9 286 0 (zi r) τ V := C
  have L47 : ∀ (σ : Mem) (l1 : Int32), fX10_descend_L47   σ l1 = some (r, τ) → V 0 σ 47 [none, some (.inl l1), none] [] := by
    intro  σ l1 h
    refine r_iload_n C dX10_descend_47 rfl ?_
    exact r_iret C rfl (Nat.le_of_ble_eq_true rfl) dX10_descend_48 (re_i h)
  have L13 : ∀ (n : Nat) (σ : Mem) (l1 l2 : Int32), fX10_descend_L13  n σ l1 l2 = some (r, τ) → V 0 σ 13 [some (.inr 124), some (.inl l1), some (.inl l2)] [] := by
    intro n13
    induction n13 with
    | zero => intro σ l1 l2 h; exact no_e h
    | succ n13 ih13 =>
      intro σ l1 l2 h
      have h : fX10_descend_B13  (fX10_descend_L13  n13) σ l1 l2 = some (r, τ) := h
      refine r_iload_n C dX10_descend_13 rfl ?_
      refine r_if_lt C (tgt := 47) h (by decide) dX10_descend_14 (fun hc h => ?_) (fun hc h => ?_)
      · refine r_weak C [none, some (.inl l1), none] ⟨rfl, trivial⟩ ?_
        exact L47 _ _ h
      · refine r_aload_n C dX10_descend_17 rfl ?_
        refine r_getR C ck_10 f_124_36 (by decide) fl_X10_77 rfl dX10_descend_18 ?_
        refine r_iload_n C dX10_descend_21 rfl ?_
        obtain ⟨hi, h⟩ := ck_e h
        refine r_iald C i_143 hi dX10_descend_22 ?_
        refine r_aload_n C dX10_descend_23 rfl ?_
        refine r_getI C ck_10 f_124_13 (by decide) fl_X10_147 rfl dX10_descend_24 ?_
        refine r_ic_ge C (tgt := 47) h (by decide) dX10_descend_27 (fun hc h => ?_) (fun hc h => ?_)
        · refine r_weak C [none, some (.inl l1), none] ⟨rfl, trivial⟩ ?_
          exact L47 _ _ h
        · refine r_aload_n C dX10_descend_30 rfl ?_
          refine r_iload_n C dX10_descend_31 rfl ?_
          refine bv_e h (fun σ9 hf9 h => ?_)
          refine r_callVv C g_X10_takesMove hc_10 o_124 ml_X10_277 (mX10_takesMove hl hI  hf9) rfl rfl (by exact Nat.le_of_ble_eq_true rfl) ⟨Nat.le_of_ble_eq_true rfl, Nat.le_of_ble_eq_true rfl, Nat.le_of_ble_eq_true rfl⟩ dX10_descend_32 ?_
          refine r_iinc C ic_1 (by decide) dX10_descend_35 rfl ?_
          refine r_aload_n C dX10_descend_38 rfl ?_
          refine r_iconst C ic_1 dX10_descend_39 ?_
          refine bd_e h (fun v10 σ10 hf10 h => ?_)
          refine r_callVi C g_X10_leastMove hc_10 o_124 ml_X10_266 (mX10_leastMove hl hI  hf10) rfl rfl (by exact Nat.le_of_ble_eq_true rfl) ⟨Nat.le_of_ble_eq_true rfl, Nat.le_of_ble_eq_true rfl, Nat.le_of_ble_eq_true rfl⟩ dX10_descend_40 ?_
          refine r_istore_n C (by decide) dX10_descend_43 ?_
          refine r_goto C (tgt := 13) (by decide) dX10_descend_44 ?_
          exact ih13 _ _ _ h
  refine r_aload_n C dX10_descend_0 rfl ?_
  refine r_iconst C ic_0 dX10_descend_1 ?_
  refine r_putI C ck_10 f_124_0 (by decide) fl_X10_117 rfl rfl rfl rfl rfl dX10_descend_2 h (fun σ11 h => ?_)
  refine r_iconst C ic_0 dX10_descend_5 ?_
  refine r_istore_n C (by decide) dX10_descend_6 ?_
  refine r_aload_n C dX10_descend_7 rfl ?_
  refine r_iconst C ic_1 dX10_descend_8 ?_
  refine bd_e h (fun v12 σ12 hf12 h => ?_)
  refine r_callVi C g_X10_leastMove hc_10 o_124 ml_X10_266 (mX10_leastMove hl hI  hf12) rfl rfl (by exact Nat.le_of_ble_eq_true rfl) ⟨Nat.le_of_ble_eq_true rfl, Nat.le_of_ble_eq_true rfl, Nat.le_of_ble_eq_true rfl⟩ dX10_descend_9 ?_
  refine r_istore_n C (by decide) dX10_descend_12 ?_
  exact L13 FU _ _ _ h
set_option maxHeartbeats 4000000 in
set_option maxRecDepth 100000 in
theorem mX10_restart {l : Launch} {D : va_G} {ad : Nat → Nat} {cy : Nat → ClassId} (hl : l.stackTraces = false) (hI : Inj ad)   {σ τ : Mem} {r : Int32} (h : fX10_restart σ = some (r, τ)) : Co l D ad cy yX10_restart cX10_restart 1 (Option.some Jvm.ClassFile.FieldType.int) 7 234 0 [.ref (ad 124)] σ (zi r) τ := by
  refine co_of (av := [.inr 124]) hl hI (by decide +kernel) (Nat.le_of_ble_eq_true rfl) [some (.inr 124)] rfl (fun V C => ?_)
  have C : Rl l D ad cy RX10 cX10_restart 1 (Option.some Jvm.ClassFile.FieldType.int) 7 234 0 (zi r) τ V := C
  refine r_aload_n C dX10_restart_0 rfl ?_
  refine r_iconst C ic_0 dX10_restart_1 ?_
  refine r_putI C ck_10 f_124_0 (by decide) fl_X10_117 rfl rfl rfl rfl rfl dX10_restart_2 h (fun σ5 h => ?_)
  refine r_aload_n C dX10_restart_5 rfl ?_
  refine bv_e h (fun σ6 hf6 h => ?_)
  refine r_callVv C g_X10_restarts hc_10 o_124 ml_X10_280 (mX10_restarts hl hI  hf6) rfl rfl (by exact Nat.le_of_ble_eq_true rfl) ⟨Nat.le_of_ble_eq_true rfl, Nat.le_of_ble_eq_true rfl, Nat.le_of_ble_eq_true rfl⟩ dX10_restart_6 ?_
  refine r_aload_n C dX10_restart_9 rfl ?_
  refine r_getI C ck_10 f_124_13 (by decide) fl_X10_147 rfl dX10_restart_10 ?_
  exact r_iret C rfl (Nat.le_of_ble_eq_true rfl) dX10_restart_13 (re_i h)
set_option maxHeartbeats 4000000 in
set_option maxRecDepth 100000 in
theorem mX10_search {l : Launch} {D : va_G} {ad : Nat → Nat} {cy : Nat → ClassId} (hl : l.stackTraces = false) (hI : Inj ad)   {σ τ : Mem} {a1 : Int32} {r : Int32} (h : fX10_search σ a1 = some (r, τ)) : Co l D ad cy yX10_search cX10_search 2 (Option.some Jvm.ClassFile.FieldType.int) 2 122 0 [.ref (ad 124), .int a1] σ (zi r) τ := by
  refine co_of (av := [.inr 124, .inl a1]) hl hI (by decide +kernel) (Nat.le_of_ble_eq_true rfl) [some (.inr 124), some (.inl a1)] rfl (fun V C => ?_)
  have C : Rl l D ad cy RX10 cX10_search 2 (Option.some Jvm.ClassFile.FieldType.int) 2 122 0 (zi r) τ V := C
  refine r_iload_n C dX10_search_0 rfl ?_
  refine r_iconst C ic_0 dX10_search_1 ?_
  refine r_iconst C ic_4 dX10_search_2 ?_
  refine bd_e h (fun v7 σ7 hf7 h => ?_)
  refine r_callSi C g_X10_isBetween ml_X10_199 (mX10_isBetween hl hI  hf7) rfl rfl (by exact Nat.le_of_ble_eq_true rfl) ⟨Nat.le_of_ble_eq_true rfl, Nat.le_of_ble_eq_true rfl, Nat.le_of_ble_eq_true rfl⟩ dX10_search_3 ?_
  refine r_if_ne C (tgt := 15) h (by decide) dX10_search_6 (fun hc h => ?_) (fun hc h => ?_)
  · refine r_aload_n C dX10_search_15 rfl ?_
    refine r_iconst C ic_0 dX10_search_16 ?_
    refine r_putI C ck_10 f_124_0 (by decide) fl_X10_117 rfl rfl rfl rfl rfl dX10_search_17 h (fun σ8 h => ?_)
    refine r_iload_n C dX10_search_20 rfl ?_
    refine r_if_ne C (tgt := 31) h (by decide) dX10_search_21 (fun hc h => ?_) (fun hc h => ?_)
    · refine r_iload_n C dX10_search_31 rfl ?_
      refine r_iconst C ic_1 dX10_search_32 ?_
      refine r_ic_ne C (tgt := 43) h (by decide) dX10_search_33 (fun hc h => ?_) (fun hc h => ?_)
      · refine r_iload_n C dX10_search_43 rfl ?_
        refine r_iconst C ic_2 dX10_search_44 ?_
        refine r_ic_ne C (tgt := 55) h (by decide) dX10_search_45 (fun hc h => ?_) (fun hc h => ?_)
        · refine r_iload_n C dX10_search_55 rfl ?_
          refine r_iconst C ic_3 dX10_search_56 ?_
          refine r_ic_ne C (tgt := 67) h (by decide) dX10_search_57 (fun hc h => ?_) (fun hc h => ?_)
          · refine r_aload_n C dX10_search_67 rfl ?_
            refine r_getI C ck_10 f_124_18 (by decide) fl_X10_156 rfl dX10_search_68 ?_
            exact r_iret C rfl (Nat.le_of_ble_eq_true rfl) dX10_search_71 (re_i h)
          · refine r_aload_n C dX10_search_60 rfl ?_
            refine r_getI C ck_10 f_124_23 (by decide) fl_X10_50 rfl dX10_search_61 ?_
            refine r_goto C (tgt := 71) (by decide) dX10_search_64 ?_
            exact r_iret C rfl (Nat.le_of_ble_eq_true rfl) dX10_search_71 (re_i h)
        · refine r_aload_n C dX10_search_48 rfl ?_
          refine r_getI C ck_10 f_124_17 (by decide) fl_X10_169 rfl dX10_search_49 ?_
          refine r_goto C (tgt := 71) (by decide) dX10_search_52 ?_
          exact r_iret C rfl (Nat.le_of_ble_eq_true rfl) dX10_search_71 (re_i h)
      · refine r_aload_n C dX10_search_36 rfl ?_
        refine r_getI C ck_10 f_124_16 (by decide) fl_X10_166 rfl dX10_search_37 ?_
        refine r_goto C (tgt := 71) (by decide) dX10_search_40 ?_
        exact r_iret C rfl (Nat.le_of_ble_eq_true rfl) dX10_search_71 (re_i h)
    · refine r_aload_n C dX10_search_24 rfl ?_
      refine r_getI C ck_10 f_124_15 (by decide) fl_X10_153 rfl dX10_search_25 ?_
      refine r_goto C (tgt := 71) (by decide) dX10_search_28 ?_
      exact r_iret C rfl (Nat.le_of_ble_eq_true rfl) dX10_search_71 (re_i h)
  · refine r_aload_n C dX10_search_9 rfl ?_
    refine r_iconst C ic_1 dX10_search_10 ?_
    refine bd_e h (fun v9 σ9 hf9 h => ?_)
    refine r_callVi C g_X10_fails hc_10 o_124 ml_X10_203 (mX10_fails hl hI  hf9) rfl rfl (by exact Nat.le_of_ble_eq_true rfl) ⟨Nat.le_of_ble_eq_true rfl, Nat.le_of_ble_eq_true rfl, Nat.le_of_ble_eq_true rfl⟩ dX10_search_11 ?_
    exact r_iret C rfl (Nat.le_of_ble_eq_true rfl) dX10_search_14 (re_i h)
set_option maxHeartbeats 4000000 in
set_option maxRecDepth 100000 in
theorem mX10_logSize {l : Launch} {D : va_G} {ad : Nat → Nat} {cy : Nat → ClassId} (hl : l.stackTraces = false) (hI : Inj ad)   {σ τ : Mem} {r : Int32} (h : fX10_logSize σ = some (r, τ)) : Co l D ad cy yX10_logSize cX10_logSize 1 (Option.some Jvm.ClassFile.FieldType.int) 1 100 0 [.ref (ad 124)] σ (zi r) τ := by
  refine co_of (av := [.inr 124]) hl hI (by decide +kernel) (Nat.le_of_ble_eq_true rfl) [some (.inr 124)] rfl (fun V C => ?_)
  have C : Rl l D ad cy RX10 cX10_logSize 1 (Option.some Jvm.ClassFile.FieldType.int) 1 100 0 (zi r) τ V := C
  refine r_aload_n C dX10_logSize_0 rfl ?_
  refine r_iconst C ic_0 dX10_logSize_1 ?_
  refine r_putI C ck_10 f_124_0 (by decide) fl_X10_117 rfl rfl rfl rfl rfl dX10_logSize_2 h (fun σ3 h => ?_)
  refine r_aload_n C dX10_logSize_5 rfl ?_
  refine r_getI C ck_10 f_124_19 (by decide) fl_X10_172 rfl dX10_logSize_6 ?_
  exact r_iret C rfl (Nat.le_of_ble_eq_true rfl) dX10_logSize_9 (re_i h)
set_option maxHeartbeats 4000000 in
set_option maxRecDepth 100000 in
theorem mX10_log {l : Launch} {D : va_G} {ad : Nat → Nat} {cy : Nat → ClassId} (hl : l.stackTraces = false) (hI : Inj ad)   {σ τ : Mem} {a1 a2 : Int32} {r : Int32} (h : fX10_log σ a1 a2 = some (r, τ)) : Co l D ad cy yX10_log cX10_log 3 (Option.some Jvm.ClassFile.FieldType.int) 2 122 0 [.ref (ad 124), .int a1, .int a2] σ (zi r) τ := by
  refine co_of (av := [.inr 124, .inl a1, .inl a2]) hl hI (by decide +kernel) (Nat.le_of_ble_eq_true rfl) [some (.inr 124), some (.inl a1), some (.inl a2)] rfl (fun V C => ?_)
  have C : Rl l D ad cy RX10 cX10_log 3 (Option.some Jvm.ClassFile.FieldType.int) 2 122 0 (zi r) τ V := C
  refine r_iload_n C dX10_log_0 rfl ?_
  refine r_iconst C ic_0 dX10_log_1 ?_
  refine r_aload_n C dX10_log_2 rfl ?_
  refine r_getI C ck_10 f_124_19 (by decide) fl_X10_172 rfl dX10_log_3 ?_
  refine r_iconst C ic_1 dX10_log_6 ?_
  refine r_isub C dX10_log_7 ?_
  refine bd_e h (fun v11 σ11 hf11 h => ?_)
  refine r_callSi C g_X10_isBetween ml_X10_199 (mX10_isBetween hl hI  hf11) rfl rfl (by exact Nat.le_of_ble_eq_true rfl) ⟨Nat.le_of_ble_eq_true rfl, Nat.le_of_ble_eq_true rfl, Nat.le_of_ble_eq_true rfl⟩ dX10_log_8 ?_
  refine r_if_ne C (tgt := 20) h (by decide) dX10_log_11 (fun hc h => ?_) (fun hc h => ?_)
  · refine r_iload_n C dX10_log_20 rfl ?_
    refine r_iconst C ic_0 dX10_log_21 ?_
    refine r_iconst C ic_5 dX10_log_22 ?_
    refine bd_e h (fun v12 σ12 hf12 h => ?_)
    refine r_callSi C g_X10_isBetween ml_X10_199 (mX10_isBetween hl hI  hf12) rfl rfl (by exact Nat.le_of_ble_eq_true rfl) ⟨Nat.le_of_ble_eq_true rfl, Nat.le_of_ble_eq_true rfl, Nat.le_of_ble_eq_true rfl⟩ dX10_log_23 ?_
    refine r_if_ne C (tgt := 35) h (by decide) dX10_log_26 (fun hc h => ?_) (fun hc h => ?_)
    · refine r_aload_n C dX10_log_35 rfl ?_
      refine r_iconst C ic_0 dX10_log_36 ?_
      refine r_putI C ck_10 f_124_0 (by decide) fl_X10_117 rfl rfl rfl rfl rfl dX10_log_37 h (fun σ13 h => ?_)
      refine r_aload_n C dX10_log_40 rfl ?_
      refine r_getR C ck_10 f_124_12 (by decide) fl_X10_37 rfl dX10_log_41 ?_
      refine r_bipush C bp_7 dX10_log_44 ?_
      refine r_iload_n C dX10_log_46 rfl ?_
      refine r_imul C dX10_log_47 ?_
      refine r_iload_n C dX10_log_48 rfl ?_
      refine r_iadd C dX10_log_49 ?_
      obtain ⟨hi, h⟩ := ck_e h
      refine r_iald C i_134 hi dX10_log_50 ?_
      exact r_iret C rfl (Nat.le_of_ble_eq_true rfl) dX10_log_51 (re_i h)
    · refine r_aload_n C dX10_log_29 rfl ?_
      refine r_iconst C ic_2 dX10_log_30 ?_
      refine bd_e h (fun v14 σ14 hf14 h => ?_)
      refine r_callVi C g_X10_fails hc_10 o_124 ml_X10_203 (mX10_fails hl hI  hf14) rfl rfl (by exact Nat.le_of_ble_eq_true rfl) ⟨Nat.le_of_ble_eq_true rfl, Nat.le_of_ble_eq_true rfl, Nat.le_of_ble_eq_true rfl⟩ dX10_log_31 ?_
      exact r_iret C rfl (Nat.le_of_ble_eq_true rfl) dX10_log_34 (re_i h)
  · refine r_aload_n C dX10_log_14 rfl ?_
    refine r_iconst C ic_1 dX10_log_15 ?_
    refine bd_e h (fun v15 σ15 hf15 h => ?_)
    refine r_callVi C g_X10_fails hc_10 o_124 ml_X10_203 (mX10_fails hl hI  hf15) rfl rfl (by exact Nat.le_of_ble_eq_true rfl) ⟨Nat.le_of_ble_eq_true rfl, Nat.le_of_ble_eq_true rfl, Nat.le_of_ble_eq_true rfl⟩ dX10_log_16 ?_
    exact r_iret C rfl (Nat.le_of_ble_eq_true rfl) dX10_log_19 (re_i h)
set_option maxHeartbeats 4000000 in
set_option maxRecDepth 100000 in
theorem mX10_improvingShare {l : Launch} {D : va_G} {ad : Nat → Nat} {cy : Nat → ClassId} (hl : l.stackTraces = false) (hI : Inj ad)   {σ τ : Mem} {r : UInt64} (h : fX10_improvingShare σ = some (r, τ)) : Co l D ad cy yX10_improvingShare cX10_improvingShare 3 (Option.some Jvm.ClassFile.FieldType.double) 1 100 0 [.ref (ad 124)] σ (zd r) τ := by
  refine co_of (av := [.inr 124]) hl hI (by decide +kernel) (Nat.le_of_ble_eq_true rfl) [some (.inr 124), none, none] rfl (fun V C => ?_)
  have C : Rl l D ad cy RX10 cX10_improvingShare 3 (Option.some Jvm.ClassFile.FieldType.double) 1 100 0 (zd r) τ V := C
  have L65 : ∀ (σ : Mem) (l1 s1 : Int32), fX10_improvingShare_L65   σ l1 s1 = some (r, τ) → V 0 σ 65 [some (.inr 124), some (.inl l1), none] [.int s1, .ref (ad 124)] := by
    intro  σ l1 s1 h
    refine r_putI C ck_10 f_124_0 (by decide) fl_X10_117 rfl rfl rfl rfl rfl dX10_improvingShare_65 h (fun σ3 h => ?_)
    refine r_aload_n C dX10_improvingShare_68 rfl ?_
    refine r_getI C ck_10 f_124_19 (by decide) fl_X10_172 rfl dX10_improvingShare_69 ?_
    refine r_if_ne C (tgt := 79) h (by decide) dX10_improvingShare_72 (fun hc h => ?_) (fun hc h => ?_)
    · refine r_iload_n C dX10_improvingShare_79 rfl ?_
      refine r_i2d C dX10_improvingShare_80 ?_
      refine r_aload_n C dX10_improvingShare_81 rfl ?_
      refine r_getI C ck_10 f_124_19 (by decide) fl_X10_172 rfl dX10_improvingShare_82 ?_
      refine r_i2d C dX10_improvingShare_85 ?_
      obtain ⟨hy, h⟩ := ckd_e h
      refine r_ddiv C hy dX10_improvingShare_86 ?_
      exact r_dret C rfl (Nat.le_of_ble_eq_true rfl) dX10_improvingShare_87 (re_d h)
    · refine r_dconst0 C dX10_improvingShare_75 ?_
      refine r_goto C (tgt := 87) (by decide) dX10_improvingShare_76 ?_
      exact r_dret C rfl (Nat.le_of_ble_eq_true rfl) dX10_improvingShare_87 (re_d h)
  have L4 : ∀ (n : Nat) (σ : Mem) (l1 l2 : Int32), fX10_improvingShare_L4  n σ l1 l2 = some (r, τ) → V 0 σ 4 [some (.inr 124), some (.inl l1), some (.inl l2)] [] := by
    intro n4
    induction n4 with
    | zero => intro σ l1 l2 h; exact no_e h
    | succ n4 ih4 =>
      have L44 : ∀ (σ : Mem) (l2 s0 s1 : Int32), fX10_improvingShare_L44 (fX10_improvingShare_L4  n4)  σ l2 s0 s1 = some (r, τ) → V 0 σ 44 [some (.inr 124), none, some (.inl l2)] [.int s1, .int s0] := by
        intro  σ l2 s0 s1 h
        refine r_iadd C dX10_improvingShare_44 ?_
        refine r_istore_n C (by decide) dX10_improvingShare_45 ?_
        refine r_iinc C ic_1 (by decide) dX10_improvingShare_46 rfl ?_
        refine r_goto C (tgt := 4) (by decide) dX10_improvingShare_49 ?_
        exact ih4 _ _ _ h
      intro σ l1 l2 h
      have h : fX10_improvingShare_B4  (fX10_improvingShare_L4  n4) σ l1 l2 = some (r, τ) := h
      refine r_iload_n C dX10_improvingShare_4 rfl ?_
      refine r_aload_n C dX10_improvingShare_5 rfl ?_
      refine r_getI C ck_10 f_124_19 (by decide) fl_X10_172 rfl dX10_improvingShare_6 ?_
      refine r_ic_ge C (tgt := 52) h (by decide) dX10_improvingShare_9 (fun hc h => ?_) (fun hc h => ?_)
      · refine r_aload_n C dX10_improvingShare_52 rfl ?_
        refine r_aload_n C dX10_improvingShare_53 rfl ?_
        refine r_getI C ck_10 f_124_19 (by decide) fl_X10_172 rfl dX10_improvingShare_54 ?_
        refine r_if_ne C (tgt := 64) h (by decide) dX10_improvingShare_57 (fun hc h => ?_) (fun hc h => ?_)
        · refine r_iconst C ic_0 dX10_improvingShare_64 ?_
          refine r_weak C [some (.inr 124), some (.inl l1), none] ⟨rfl, ⟨rfl, trivial⟩⟩ ?_
          exact L65 _ _ _ h
        · refine r_iconst C ic_1 dX10_improvingShare_60 ?_
          refine r_goto C (tgt := 65) (by decide) dX10_improvingShare_61 ?_
          refine r_weak C [some (.inr 124), some (.inl l1), none] ⟨rfl, ⟨rfl, trivial⟩⟩ ?_
          exact L65 _ _ _ h
      · refine r_iload_n C dX10_improvingShare_12 rfl ?_
        refine r_aload_n C dX10_improvingShare_13 rfl ?_
        refine r_getR C ck_10 f_124_12 (by decide) fl_X10_37 rfl dX10_improvingShare_14 ?_
        refine r_bipush C bp_7 dX10_improvingShare_17 ?_
        refine r_iload_n C dX10_improvingShare_19 rfl ?_
        refine r_imul C dX10_improvingShare_20 ?_
        refine r_iconst C ic_4 dX10_improvingShare_21 ?_
        refine r_iadd C dX10_improvingShare_22 ?_
        obtain ⟨hi, h⟩ := ck_e h
        refine r_iald C i_134 hi dX10_improvingShare_23 ?_
        refine r_aload_n C dX10_improvingShare_24 rfl ?_
        refine r_getR C ck_10 f_124_12 (by decide) fl_X10_37 rfl dX10_improvingShare_25 ?_
        refine r_bipush C bp_7 dX10_improvingShare_28 ?_
        refine r_iload_n C dX10_improvingShare_30 rfl ?_
        refine r_imul C dX10_improvingShare_31 ?_
        refine r_bipush C bp_6 dX10_improvingShare_32 ?_
        refine r_iadd C dX10_improvingShare_34 ?_
        obtain ⟨hi, h⟩ := ck_e h
        refine r_iald C i_134 hi dX10_improvingShare_35 ?_
        refine r_ic_ge C (tgt := 43) h (by decide) dX10_improvingShare_36 (fun hc h => ?_) (fun hc h => ?_)
        · refine r_iconst C ic_0 dX10_improvingShare_43 ?_
          refine r_weak C [some (.inr 124), none, some (.inl l2)] ⟨rfl, ⟨rfl, trivial⟩⟩ ?_
          exact L44 _ _ _ _ h
        · refine r_iconst C ic_1 dX10_improvingShare_39 ?_
          refine r_goto C (tgt := 44) (by decide) dX10_improvingShare_40 ?_
          refine r_weak C [some (.inr 124), none, some (.inl l2)] ⟨rfl, ⟨rfl, trivial⟩⟩ ?_
          exact L44 _ _ _ _ h
  refine r_iconst C ic_0 dX10_improvingShare_0 ?_
  refine r_istore_n C (by decide) dX10_improvingShare_1 ?_
  refine r_iconst C ic_0 dX10_improvingShare_2 ?_
  refine r_istore_n C (by decide) dX10_improvingShare_3 ?_
  exact L4 FU _ _ _ h
set_option maxHeartbeats 4000000 in
set_option maxRecDepth 100000 in
theorem mX10_goesOn {l : Launch} {D : va_G} {ad : Nat → Nat} {cy : Nat → ClassId} (hl : l.stackTraces = false) (hI : Inj ad)   {σ τ : Mem} {r : Int32} (h : fX10_goesOn σ = some (r, τ)) : Co l D ad cy yX10_goesOn cX10_goesOn 2 (Option.some Jvm.ClassFile.FieldType.boolean) 1 100 0 [.ref (ad 124)] σ (zi r) τ := by
  refine co_of (av := [.inr 124]) hl hI (by decide +kernel) (Nat.le_of_ble_eq_true rfl) [some (.inr 124), none] rfl (fun V C => ?_)
  have C : Rl l D ad cy RX10 cX10_goesOn 2 (Option.some Jvm.ClassFile.FieldType.boolean) 1 100 0 (zi r) τ V := C
  have L7 : ∀ (n : Nat) (σ : Mem) (l1 : Int32), fX10_goesOn_L7  n σ l1 = some (r, τ) → V 0 σ 7 [some (.inr 124), some (.inl l1)] [] := by
    intro n7
    induction n7 with
    | zero => intro σ l1 h; exact no_e h
    | succ n7 ih7 =>
      intro σ l1 h
      have h : fX10_goesOn_B7  (fX10_goesOn_L7  n7) σ l1 = some (r, τ) := h
      refine r_iload_n C dX10_goesOn_7 rfl ?_
      refine r_if_lt C (tgt := 51) h (by decide) dX10_goesOn_8 (fun hc h => ?_) (fun hc h => ?_)
      · refine r_iconst C ic_0 dX10_goesOn_51 ?_
        exact r_zret C rfl (Nat.le_of_ble_eq_true rfl) (Or.inl rfl) dX10_goesOn_52 (re_i h)
      · refine r_aload_n C dX10_goesOn_11 rfl ?_
        refine r_getR C ck_10 f_124_40 (by decide) fl_X10_87 rfl dX10_goesOn_12 ?_
        refine r_iload_n C dX10_goesOn_15 rfl ?_
        refine r_dup2 C rfl rfl dX10_goesOn_16 ?_
        obtain ⟨hi, h⟩ := ck_e h
        refine r_iald C i_146 hi dX10_goesOn_17 ?_
        refine r_iconst C ic_1 dX10_goesOn_18 ?_
        refine r_iadd C dX10_goesOn_19 ?_
        obtain ⟨hi, h⟩ := ck_e h
        refine r_iast C i_146 hi dX10_goesOn_20 h (fun σ5 h => ?_)
        refine r_aload_n C dX10_goesOn_21 rfl ?_
        refine r_getR C ck_10 f_124_40 (by decide) fl_X10_87 rfl dX10_goesOn_22 ?_
        refine r_iload_n C dX10_goesOn_25 rfl ?_
        obtain ⟨hi, h⟩ := ck_e h
        refine r_iald C i_146 hi dX10_goesOn_26 ?_
        refine r_aload_n C dX10_goesOn_27 rfl ?_
        refine r_getR C ck_10 f_124_1 (by decide) fl_X10_7 rfl dX10_goesOn_28 ?_
        refine r_iload_n C dX10_goesOn_31 rfl ?_
        obtain ⟨hi, h⟩ := ck_e h
        refine r_iald C i_125 hi dX10_goesOn_32 ?_
        refine r_ic_ge C (tgt := 38) h (by decide) dX10_goesOn_33 (fun hc h => ?_) (fun hc h => ?_)
        · refine r_aload_n C dX10_goesOn_38 rfl ?_
          refine r_getR C ck_10 f_124_40 (by decide) fl_X10_87 rfl dX10_goesOn_39 ?_
          refine r_iload_n C dX10_goesOn_42 rfl ?_
          refine r_iconst C ic_0 dX10_goesOn_43 ?_
          obtain ⟨hi, h⟩ := ck_e h
          refine r_iast C i_146 hi dX10_goesOn_44 h (fun σ6 h => ?_)
          refine r_iinc C ic_m1 (by decide) dX10_goesOn_45 rfl ?_
          refine r_goto C (tgt := 7) (by decide) dX10_goesOn_48 ?_
          exact ih7 _ _ h
        · refine r_iconst C ic_1 dX10_goesOn_36 ?_
          exact r_zret C rfl (Nat.le_of_ble_eq_true rfl) (Or.inr rfl) dX10_goesOn_37 (re_i h)
  refine r_aload_n C dX10_goesOn_0 rfl ?_
  refine r_getI C ck_10 f_124_7 (by decide) fl_X10_120 rfl dX10_goesOn_1 ?_
  refine r_iconst C ic_1 dX10_goesOn_4 ?_
  refine r_isub C dX10_goesOn_5 ?_
  refine r_istore_n C (by decide) dX10_goesOn_6 ?_
  exact L7 FU _ _ h
set_option maxHeartbeats 4000000 in
set_option maxRecDepth 100000 in
theorem mX10_violatedBy {l : Launch} {D : va_G} {ad : Nat → Nat} {cy : Nat → ClassId} (hl : l.stackTraces = false) (hI : Inj ad) {q1 : Nat} (hq1 : isI 0 10 q1) {σ τ : Mem} {r : Int32} (h : fX10_violatedBy q1 σ = some (r, τ)) : Co l D ad cy yX10_violatedBy cX10_violatedBy 4 (Option.some Jvm.ClassFile.FieldType.int) 4 170 0 [.ref (ad 124), .ref (ad q1)] σ (zi r) τ := by
  refine co_of (av := [.inr 124, .inr q1]) hl hI (by decide +kernel) (Nat.le_of_ble_eq_true rfl) [some (.inr 124), some (.inr q1), none, none] rfl (fun V C => ?_)
  have C : Rl l D ad cy RX10 cX10_violatedBy 4 (Option.some Jvm.ClassFile.FieldType.int) 4 170 0 (zi r) τ V := C
  have L4 : ∀ (n : Nat) (σ : Mem) (l2 l3 : Int32), fX10_violatedBy_L4 q1 n σ l2 l3 = some (r, τ) → V 0 σ 4 [some (.inr 124), some (.inr q1), some (.inl l2), some (.inl l3)] [] := by
    intro n4
    induction n4 with
    | zero => intro σ l2 l3 h; exact no_e h
    | succ n4 ih4 =>
      have L29 : ∀ (σ : Mem) (l3 s0 s1 : Int32), fX10_violatedBy_L29 q1 (fX10_violatedBy_L4 q1 n4)  σ l3 s0 s1 = some (r, τ) → V 0 σ 29 [some (.inr 124), some (.inr q1), none, some (.inl l3)] [.int s1, .int s0] := by
        intro  σ l3 s0 s1 h
        refine r_ior C dX10_violatedBy_29 ?_
        refine r_istore_n C (by decide) dX10_violatedBy_30 ?_
        refine r_iinc C ic_1 (by decide) dX10_violatedBy_31 rfl ?_
        refine r_goto C (tgt := 4) (by decide) dX10_violatedBy_34 ?_
        exact ih4 _ _ _ h
      intro σ l2 l3 h
      have h : fX10_violatedBy_B4 q1 (fX10_violatedBy_L4 q1 n4) σ l2 l3 = some (r, τ) := h
      refine r_iload_n C dX10_violatedBy_4 rfl ?_
      refine r_aload_n C dX10_violatedBy_5 rfl ?_
      refine r_getI C ck_10 f_124_8 (by decide) fl_X10_123 rfl dX10_violatedBy_6 ?_
      refine r_ic_ge C (tgt := 37) h (by decide) dX10_violatedBy_9 (fun hc h => ?_) (fun hc h => ?_)
      · refine r_iload_n C dX10_violatedBy_37 rfl ?_
        exact r_iret C rfl (Nat.le_of_ble_eq_true rfl) dX10_violatedBy_38 (re_i h)
      · refine r_iload_n C dX10_violatedBy_12 rfl ?_
        refine r_aload_n C dX10_violatedBy_13 rfl ?_
        refine r_iload_n C dX10_violatedBy_14 rfl ?_
        refine r_aload_n C dX10_violatedBy_15 rfl ?_
        refine bd_e h (fun v3 σ3 hf3 h => ?_)
        refine r_callVi C g_X10_violationOf hc_10 o_124 ml_X10_144 (mX10_violationOf hl hI hq1 hf3) rfl rfl (by exact Nat.le_of_ble_eq_true rfl) ⟨Nat.le_of_ble_eq_true rfl, Nat.le_of_ble_eq_true rfl, Nat.le_of_ble_eq_true rfl⟩ dX10_violatedBy_16 ?_
        refine r_if_le C (tgt := 28) h (by decide) dX10_violatedBy_19 (fun hc h => ?_) (fun hc h => ?_)
        · refine r_iconst C ic_0 dX10_violatedBy_28 ?_
          refine r_weak C [some (.inr 124), some (.inr q1), none, some (.inl l3)] ⟨rfl, ⟨rfl, ⟨rfl, trivial⟩⟩⟩ ?_
          exact L29 _ _ _ _ h
        · refine r_iconst C ic_1 dX10_violatedBy_22 ?_
          refine r_iload_n C dX10_violatedBy_23 rfl ?_
          refine r_ishl C dX10_violatedBy_24 ?_
          refine r_goto C (tgt := 29) (by decide) dX10_violatedBy_25 ?_
          refine r_weak C [some (.inr 124), some (.inr q1), none, some (.inl l3)] ⟨rfl, ⟨rfl, ⟨rfl, trivial⟩⟩⟩ ?_
          exact L29 _ _ _ _ h
  refine r_iconst C ic_0 dX10_violatedBy_0 ?_
  refine r_istore_n C (by decide) dX10_violatedBy_1 ?_
  refine r_iconst C ic_0 dX10_violatedBy_2 ?_
  refine r_istore_n C (by decide) dX10_violatedBy_3 ?_
  exact L4 FU _ _ _ h
set_option maxHeartbeats 4000000 in
set_option maxRecDepth 100000 in
theorem mX10_findsAll {l : Launch} {D : va_G} {ad : Nat → Nat} {cy : Nat → ClassId} (hl : l.stackTraces = false) (hI : Inj ad)   {σ τ : Mem} {r : Int32} (h : fX10_findsAll σ = some (r, τ)) : Co l D ad cy yX10_findsAll cX10_findsAll 3 (Option.some Jvm.ClassFile.FieldType.boolean) 5 193 0 [.ref (ad 124)] σ (zi r) τ := by
  refine co_of (av := [.inr 124]) hl hI (by decide +kernel) (Nat.le_of_ble_eq_true rfl) [some (.inr 124), none, none] rfl (fun V C => ?_)
  have C : Rl l D ad cy RX10 cX10_findsAll 3 (Option.some Jvm.ClassFile.FieldType.boolean) 5 193 0 (zi r) τ V := C
  have L44 : ∀ (n : Nat) (σ : Mem), fX10_findsAll_L44  n σ  = some (r, τ) → V 0 σ 44 [some (.inr 124), none, none] [] := by
    intro n44
    induction n44 with
    | zero => intro σ  h; exact no_e h
    | succ n44 ih44 =>
      have L183 : ∀ (σ : Mem), fX10_findsAll_L183 (fX10_findsAll_L44  n44)  σ  = some (r, τ) → V 0 σ 183 [some (.inr 124), none, none] [] := by
        intro  σ  h
        refine r_aload_n C dX10_findsAll_183 rfl ?_
        refine bd_e h (fun v27 σ27 hf27 h => ?_)
        refine r_callVi C g_X10_goesOn hc_10 o_124 ml_X10_301 (mX10_goesOn hl hI  hf27) rfl rfl (by exact Nat.le_of_ble_eq_true rfl) ⟨Nat.le_of_ble_eq_true rfl, Nat.le_of_ble_eq_true rfl, Nat.le_of_ble_eq_true rfl⟩ dX10_findsAll_184 ?_
        refine r_if_ne C (tgt := 44) h (by decide) dX10_findsAll_187 (fun hc h => ?_) (fun hc h => ?_)
        · exact ih44 _ h
        · refine r_iconst C ic_1 dX10_findsAll_190 ?_
          exact r_zret C rfl (Nat.le_of_ble_eq_true rfl) (Or.inr rfl) dX10_findsAll_191 (re_i h)
      have L178 : ∀ (σ : Mem) (l1 : Int32), fX10_findsAll_L178 (fX10_findsAll_L44  n44)  σ l1 = some (r, τ) → V 0 σ 178 [some (.inr 124), some (.inl l1), none] [] := by
        intro  σ l1 h
        refine r_aload_n C dX10_findsAll_178 rfl ?_
        refine r_iload_n C dX10_findsAll_179 rfl ?_
        refine r_putI C ck_10 f_124_42 (by decide) fl_X10_286 rfl rfl rfl rfl rfl dX10_findsAll_180 h (fun σ28 h => ?_)
        refine r_weak C [some (.inr 124), none, none] ⟨rfl, trivial⟩ ?_
        exact L183 _ h
      have L144 : ∀ (n : Nat) (σ : Mem) (l1 l2 : Int32), fX10_findsAll_L144 (fX10_findsAll_L44  n44) n σ l1 l2 = some (r, τ) → V 0 σ 144 [some (.inr 124), some (.inl l1), some (.inl l2)] [] := by
        intro n144
        induction n144 with
        | zero => intro σ l1 l2 h; exact no_e h
        | succ n144 ih144 =>
          intro σ l1 l2 h
          have h : fX10_findsAll_B144 (fX10_findsAll_L44  n44) (fX10_findsAll_L144 (fX10_findsAll_L44  n44) n144) σ l1 l2 = some (r, τ) := h
          refine r_iload_n C dX10_findsAll_144 rfl ?_
          refine r_aload_n C dX10_findsAll_145 rfl ?_
          refine r_getI C ck_10 f_124_7 (by decide) fl_X10_120 rfl dX10_findsAll_146 ?_
          refine r_ic_ge C (tgt := 178) h (by decide) dX10_findsAll_149 (fun hc h => ?_) (fun hc h => ?_)
          · refine r_weak C [some (.inr 124), some (.inl l1), none] ⟨rfl, ⟨rfl, trivial⟩⟩ ?_
            exact L178 _ _ h
          · refine r_iload_n C dX10_findsAll_152 rfl ?_
            refine r_aload_n C dX10_findsAll_153 rfl ?_
            refine r_getI C ck_10 f_124_42 (by decide) fl_X10_286 rfl dX10_findsAll_154 ?_
            refine r_ic_ge C (tgt := 178) h (by decide) dX10_findsAll_157 (fun hc h => ?_) (fun hc h => ?_)
            · refine r_weak C [some (.inr 124), some (.inl l1), none] ⟨rfl, ⟨rfl, trivial⟩⟩ ?_
              exact L178 _ _ h
            · refine r_aload_n C dX10_findsAll_160 rfl ?_
              refine r_getR C ck_10 f_124_41 (by decide) fl_X10_90 rfl dX10_findsAll_161 ?_
              refine r_iload_n C dX10_findsAll_164 rfl ?_
              refine r_aload_n C dX10_findsAll_165 rfl ?_
              refine r_getR C ck_10 f_124_40 (by decide) fl_X10_87 rfl dX10_findsAll_166 ?_
              refine r_iload_n C dX10_findsAll_169 rfl ?_
              obtain ⟨hi, h⟩ := ck_e h
              refine r_iald C i_146 hi dX10_findsAll_170 ?_
              obtain ⟨hi, h⟩ := ck_e h
              refine r_iast C i_147 hi dX10_findsAll_171 h (fun σ29 h => ?_)
              refine r_iinc C ic_1 (by decide) dX10_findsAll_172 rfl ?_
              refine r_goto C (tgt := 144) (by decide) dX10_findsAll_175 ?_
              exact ih144 _ _ _ h
      have L139 : ∀ (σ : Mem) (l1 s1 : Int32), fX10_findsAll_L139 (fX10_findsAll_L44  n44)  σ l1 s1 = some (r, τ) → V 0 σ 139 [some (.inr 124), some (.inl l1), none] [.int s1, .ref (ad 124)] := by
        intro  σ l1 s1 h
        refine r_putI C ck_10 f_124_45 (by decide) fl_X10_298 rfl rfl rfl rfl rfl dX10_findsAll_139 h (fun σ30 h => ?_)
        refine r_iconst C ic_0 dX10_findsAll_142 ?_
        refine r_istore_n C (by decide) dX10_findsAll_143 ?_
        exact L144 FU _ _ _ h
      have L103 : ∀ (σ : Mem) (l1 s1 : Int32), fX10_findsAll_L103 (fX10_findsAll_L44  n44)  σ l1 s1 = some (r, τ) → V 0 σ 103 [some (.inr 124), some (.inl l1), none] [.int s1, .ref (ad 124)] := by
        intro  σ l1 s1 h
        refine r_putI C ck_10 f_124_43 (by decide) fl_X10_292 rfl rfl rfl rfl rfl dX10_findsAll_103 h (fun σ31 h => ?_)
        refine r_aload_n C dX10_findsAll_106 rfl ?_
        refine r_iload_n C dX10_findsAll_107 rfl ?_
        refine r_aload_n C dX10_findsAll_108 rfl ?_
        refine r_getI C ck_10 f_124_42 (by decide) fl_X10_286 rfl dX10_findsAll_109 ?_
        refine r_ic_ge C (tgt := 126) h (by decide) dX10_findsAll_112 (fun hc h => ?_) (fun hc h => ?_)
        · refine r_aload_n C dX10_findsAll_126 rfl ?_
          refine r_getI C ck_10 f_124_45 (by decide) fl_X10_298 rfl dX10_findsAll_127 ?_
          refine r_aload_n C dX10_findsAll_130 rfl ?_
          refine r_aload_n C dX10_findsAll_131 rfl ?_
          refine r_getR C ck_10 f_124_40 (by decide) fl_X10_87 rfl dX10_findsAll_132 ?_
          refine bd_e h (fun v32 σ32 hf32 h => ?_)
          refine r_callVi C g_X10_violatedBy hc_10 o_124 ml_X10_295 (mX10_violatedBy hl hI i_146 hf32) rfl rfl (by exact Nat.le_of_ble_eq_true rfl) ⟨Nat.le_of_ble_eq_true rfl, Nat.le_of_ble_eq_true rfl, Nat.le_of_ble_eq_true rfl⟩ dX10_findsAll_135 ?_
          refine r_iand C dX10_findsAll_138 ?_
          exact L139 _ _ _ h
        · refine r_aload_n C dX10_findsAll_115 rfl ?_
          refine r_aload_n C dX10_findsAll_116 rfl ?_
          refine r_getR C ck_10 f_124_40 (by decide) fl_X10_87 rfl dX10_findsAll_117 ?_
          refine bd_e h (fun v33 σ33 hf33 h => ?_)
          refine r_callVi C g_X10_violatedBy hc_10 o_124 ml_X10_295 (mX10_violatedBy hl hI i_146 hf33) rfl rfl (by exact Nat.le_of_ble_eq_true rfl) ⟨Nat.le_of_ble_eq_true rfl, Nat.le_of_ble_eq_true rfl, Nat.le_of_ble_eq_true rfl⟩ dX10_findsAll_120 ?_
          refine r_goto C (tgt := 139) (by decide) dX10_findsAll_123 ?_
          exact L139 _ _ _ h
      have L70 : ∀ (σ : Mem) (l1 s1 : Int32), fX10_findsAll_L70 (fX10_findsAll_L44  n44)  σ l1 s1 = some (r, τ) → V 0 σ 70 [some (.inr 124), some (.inl l1), none] [.int s1, .ref (ad 124)] := by
        intro  σ l1 s1 h
        refine r_putI C ck_10 f_124_44 (by decide) fl_X10_289 rfl rfl rfl rfl rfl dX10_findsAll_70 h (fun σ34 h => ?_)
        refine r_iload_n C dX10_findsAll_73 rfl ?_
        refine r_aload_n C dX10_findsAll_74 rfl ?_
        refine r_getI C ck_10 f_124_42 (by decide) fl_X10_286 rfl dX10_findsAll_75 ?_
        refine r_ic_le C (tgt := 84) h (by decide) dX10_findsAll_78 (fun hc h => ?_) (fun hc h => ?_)
        · refine r_aload_n C dX10_findsAll_84 rfl ?_
          refine r_iload_n C dX10_findsAll_85 rfl ?_
          refine r_aload_n C dX10_findsAll_86 rfl ?_
          refine r_getI C ck_10 f_124_42 (by decide) fl_X10_286 rfl dX10_findsAll_87 ?_
          refine r_ic_ge C (tgt := 97) h (by decide) dX10_findsAll_90 (fun hc h => ?_) (fun hc h => ?_)
          · refine r_aload_n C dX10_findsAll_97 rfl ?_
            refine r_getI C ck_10 f_124_43 (by decide) fl_X10_292 rfl dX10_findsAll_98 ?_
            refine r_iconst C ic_1 dX10_findsAll_101 ?_
            refine r_iadd C dX10_findsAll_102 ?_
            exact L103 _ _ _ h
          · refine r_iconst C ic_1 dX10_findsAll_93 ?_
            refine r_goto C (tgt := 103) (by decide) dX10_findsAll_94 ?_
            exact L103 _ _ _ h
        · refine r_goto C (tgt := 183) (by decide) dX10_findsAll_81 ?_
          refine r_weak C [some (.inr 124), none, none] ⟨rfl, trivial⟩ ?_
          exact L183 _ h
      intro σ  h
      have h : fX10_findsAll_B44  (fX10_findsAll_L44  n44) σ  = some (r, τ) := h
      refine r_aload_n C dX10_findsAll_44 rfl ?_
      refine r_aload_n C dX10_findsAll_45 rfl ?_
      refine r_getR C ck_10 f_124_40 (by decide) fl_X10_87 rfl dX10_findsAll_46 ?_
      refine bd_e h (fun v35 σ35 hf35 h => ?_)
      refine r_callVi C g_X10_costOf hc_10 o_124 ml_X10_159 (mX10_costOf hl hI i_146 hf35) rfl rfl (by exact Nat.le_of_ble_eq_true rfl) ⟨Nat.le_of_ble_eq_true rfl, Nat.le_of_ble_eq_true rfl, Nat.le_of_ble_eq_true rfl⟩ dX10_findsAll_49 ?_
      refine r_istore_n C (by decide) dX10_findsAll_52 ?_
      refine r_aload_n C dX10_findsAll_53 rfl ?_
      refine r_iload_n C dX10_findsAll_54 rfl ?_
      refine r_aload_n C dX10_findsAll_55 rfl ?_
      refine r_getI C ck_10 f_124_44 (by decide) fl_X10_289 rfl dX10_findsAll_56 ?_
      refine r_ic_le C (tgt := 66) h (by decide) dX10_findsAll_59 (fun hc h => ?_) (fun hc h => ?_)
      · refine r_aload_n C dX10_findsAll_66 rfl ?_
        refine r_getI C ck_10 f_124_44 (by decide) fl_X10_289 rfl dX10_findsAll_67 ?_
        exact L70 _ _ _ h
      · refine r_iload_n C dX10_findsAll_62 rfl ?_
        refine r_goto C (tgt := 70) (by decide) dX10_findsAll_63 ?_
        exact L70 _ _ _ h
  have L14 : ∀ (n : Nat) (σ : Mem) (l1 : Int32), fX10_findsAll_L14  n σ l1 = some (r, τ) → V 0 σ 14 [some (.inr 124), some (.inl l1), none] [] := by
    intro n14
    induction n14 with
    | zero => intro σ l1 h; exact no_e h
    | succ n14 ih14 =>
      intro σ l1 h
      have h : fX10_findsAll_B14  (fX10_findsAll_L14  n14) σ l1 = some (r, τ) := h
      refine r_iload_n C dX10_findsAll_14 rfl ?_
      refine r_bipush C bp_10 dX10_findsAll_15 ?_
      refine r_ic_ge C (tgt := 33) h (by decide) dX10_findsAll_17 (fun hc h => ?_) (fun hc h => ?_)
      · refine r_aload_n C dX10_findsAll_33 rfl ?_
        refine r_ldc C kc_X10_241 dX10_findsAll_34 ?_
        refine r_putI C ck_10 f_124_42 (by decide) fl_X10_286 rfl rfl rfl rfl rfl dX10_findsAll_36 h (fun σ36 h => ?_)
        refine r_aload_n C dX10_findsAll_39 rfl ?_
        refine r_iconst C ic_0 dX10_findsAll_40 ?_
        refine r_putI C ck_10 f_124_44 (by decide) fl_X10_289 rfl rfl rfl rfl rfl dX10_findsAll_41 h (fun σ37 h => ?_)
        refine r_weak C [some (.inr 124), none, none] ⟨rfl, trivial⟩ ?_
        exact L44 FU _ h
      · refine r_aload_n C dX10_findsAll_20 rfl ?_
        refine r_getR C ck_10 f_124_40 (by decide) fl_X10_87 rfl dX10_findsAll_21 ?_
        refine r_iload_n C dX10_findsAll_24 rfl ?_
        refine r_iconst C ic_0 dX10_findsAll_25 ?_
        obtain ⟨hi, h⟩ := ck_e h
        refine r_iast C i_146 hi dX10_findsAll_26 h (fun σ38 h => ?_)
        refine r_iinc C ic_1 (by decide) dX10_findsAll_27 rfl ?_
        refine r_goto C (tgt := 14) (by decide) dX10_findsAll_30 ?_
        exact ih14 _ _ h
  refine r_aload_n C dX10_findsAll_0 rfl ?_
  refine bd_e h (fun v39 σ39 hf39 h => ?_)
  refine r_callVi C g_X10_combinations hc_10 o_124 ml_X10_234 (mX10_combinations hl hI  hf39) rfl rfl (by exact Nat.le_of_ble_eq_true rfl) ⟨Nat.le_of_ble_eq_true rfl, Nat.le_of_ble_eq_true rfl, Nat.le_of_ble_eq_true rfl⟩ dX10_findsAll_1 ?_
  refine r_sipush C sp_5000 dX10_findsAll_4 ?_
  refine r_ic_le C (tgt := 12) h (by decide) dX10_findsAll_7 (fun hc h => ?_) (fun hc h => ?_)
  · refine r_iconst C ic_0 dX10_findsAll_12 ?_
    refine r_istore_n C (by decide) dX10_findsAll_13 ?_
    exact L14 FU _ _ h
  · refine r_iconst C ic_0 dX10_findsAll_10 ?_
    exact r_zret C rfl (Nat.le_of_ble_eq_true rfl) (Or.inl rfl) dX10_findsAll_11 (re_i h)
set_option maxHeartbeats 4000000 in
set_option maxRecDepth 100000 in
theorem mX10_optimum {l : Launch} {D : va_G} {ad : Nat → Nat} {cy : Nat → ClassId} (hl : l.stackTraces = false) (hI : Inj ad)   {σ τ : Mem} {r : Int32} (h : fX10_optimum σ = some (r, τ)) : Co l D ad cy yX10_optimum cX10_optimum 1 (Option.some Jvm.ClassFile.FieldType.int) 6 215 0 [.ref (ad 124)] σ (zi r) τ := by
  refine co_of (av := [.inr 124]) hl hI (by decide +kernel) (Nat.le_of_ble_eq_true rfl) [some (.inr 124)] rfl (fun V C => ?_)
  have C : Rl l D ad cy RX10 cX10_optimum 1 (Option.some Jvm.ClassFile.FieldType.int) 6 215 0 (zi r) τ V := C
  refine r_aload_n C dX10_optimum_0 rfl ?_
  refine bd_e h (fun v7 σ7 hf7 h => ?_)
  refine r_callVi C g_X10_findsAll hc_10 o_124 ml_X10_304 (mX10_findsAll hl hI  hf7) rfl rfl (by exact Nat.le_of_ble_eq_true rfl) ⟨Nat.le_of_ble_eq_true rfl, Nat.le_of_ble_eq_true rfl, Nat.le_of_ble_eq_true rfl⟩ dX10_optimum_1 ?_
  refine r_if_ne C (tgt := 13) h (by decide) dX10_optimum_4 (fun hc h => ?_) (fun hc h => ?_)
  · refine r_aload_n C dX10_optimum_13 rfl ?_
    refine r_iconst C ic_0 dX10_optimum_14 ?_
    refine r_putI C ck_10 f_124_0 (by decide) fl_X10_117 rfl rfl rfl rfl rfl dX10_optimum_15 h (fun σ8 h => ?_)
    refine r_aload_n C dX10_optimum_18 rfl ?_
    refine r_getI C ck_10 f_124_42 (by decide) fl_X10_286 rfl dX10_optimum_19 ?_
    exact r_iret C rfl (Nat.le_of_ble_eq_true rfl) dX10_optimum_22 (re_i h)
  · refine r_aload_n C dX10_optimum_7 rfl ?_
    refine r_iconst C ic_1 dX10_optimum_8 ?_
    refine bd_e h (fun v9 σ9 hf9 h => ?_)
    refine r_callVi C g_X10_fails hc_10 o_124 ml_X10_203 (mX10_fails hl hI  hf9) rfl rfl (by exact Nat.le_of_ble_eq_true rfl) ⟨Nat.le_of_ble_eq_true rfl, Nat.le_of_ble_eq_true rfl, Nat.le_of_ble_eq_true rfl⟩ dX10_optimum_9 ?_
    exact r_iret C rfl (Nat.le_of_ble_eq_true rfl) dX10_optimum_12 (re_i h)
set_option maxHeartbeats 4000000 in
set_option maxRecDepth 100000 in
theorem mX10_optima {l : Launch} {D : va_G} {ad : Nat → Nat} {cy : Nat → ClassId} (hl : l.stackTraces = false) (hI : Inj ad)   {σ τ : Mem} {r : Int32} (h : fX10_optima σ = some (r, τ)) : Co l D ad cy yX10_optima cX10_optima 1 (Option.some Jvm.ClassFile.FieldType.int) 6 215 0 [.ref (ad 124)] σ (zi r) τ := by
  refine co_of (av := [.inr 124]) hl hI (by decide +kernel) (Nat.le_of_ble_eq_true rfl) [some (.inr 124)] rfl (fun V C => ?_)
  have C : Rl l D ad cy RX10 cX10_optima 1 (Option.some Jvm.ClassFile.FieldType.int) 6 215 0 (zi r) τ V := C
  refine r_aload_n C dX10_optima_0 rfl ?_
  refine bd_e h (fun v7 σ7 hf7 h => ?_)
  refine r_callVi C g_X10_findsAll hc_10 o_124 ml_X10_304 (mX10_findsAll hl hI  hf7) rfl rfl (by exact Nat.le_of_ble_eq_true rfl) ⟨Nat.le_of_ble_eq_true rfl, Nat.le_of_ble_eq_true rfl, Nat.le_of_ble_eq_true rfl⟩ dX10_optima_1 ?_
  refine r_if_ne C (tgt := 13) h (by decide) dX10_optima_4 (fun hc h => ?_) (fun hc h => ?_)
  · refine r_aload_n C dX10_optima_13 rfl ?_
    refine r_iconst C ic_0 dX10_optima_14 ?_
    refine r_putI C ck_10 f_124_0 (by decide) fl_X10_117 rfl rfl rfl rfl rfl dX10_optima_15 h (fun σ8 h => ?_)
    refine r_aload_n C dX10_optima_18 rfl ?_
    refine r_getI C ck_10 f_124_43 (by decide) fl_X10_292 rfl dX10_optima_19 ?_
    exact r_iret C rfl (Nat.le_of_ble_eq_true rfl) dX10_optima_22 (re_i h)
  · refine r_aload_n C dX10_optima_7 rfl ?_
    refine r_iconst C ic_1 dX10_optima_8 ?_
    refine bd_e h (fun v9 σ9 hf9 h => ?_)
    refine r_callVi C g_X10_fails hc_10 o_124 ml_X10_203 (mX10_fails hl hI  hf9) rfl rfl (by exact Nat.le_of_ble_eq_true rfl) ⟨Nat.le_of_ble_eq_true rfl, Nat.le_of_ble_eq_true rfl, Nat.le_of_ble_eq_true rfl⟩ dX10_optima_9 ?_
    exact r_iret C rfl (Nat.le_of_ble_eq_true rfl) dX10_optima_12 (re_i h)
set_option maxHeartbeats 4000000 in
set_option maxRecDepth 100000 in
theorem mX10_optimalValue {l : Launch} {D : va_G} {ad : Nat → Nat} {cy : Nat → ClassId} (hl : l.stackTraces = false) (hI : Inj ad)   {σ τ : Mem} {a1 : Int32} {r : Int32} (h : fX10_optimalValue σ a1 = some (r, τ)) : Co l D ad cy yX10_optimalValue cX10_optimalValue 2 (Option.some Jvm.ClassFile.FieldType.int) 6 215 0 [.ref (ad 124), .int a1] σ (zi r) τ := by
  refine co_of (av := [.inr 124, .inl a1]) hl hI (by decide +kernel) (Nat.le_of_ble_eq_true rfl) [some (.inr 124), some (.inl a1)] rfl (fun V C => ?_)
  have C : Rl l D ad cy RX10 cX10_optimalValue 2 (Option.some Jvm.ClassFile.FieldType.int) 6 215 0 (zi r) τ V := C
  refine r_aload_n C dX10_optimalValue_0 rfl ?_
  refine r_iload_n C dX10_optimalValue_1 rfl ?_
  refine bd_e h (fun v11 σ11 hf11 h => ?_)
  refine r_callVi C g_X10_isVariable hc_10 o_124 ml_X10_214 (mX10_isVariable hl hI  hf11) rfl rfl (by exact Nat.le_of_ble_eq_true rfl) ⟨Nat.le_of_ble_eq_true rfl, Nat.le_of_ble_eq_true rfl, Nat.le_of_ble_eq_true rfl⟩ dX10_optimalValue_2 ?_
  refine r_if_ne C (tgt := 14) h (by decide) dX10_optimalValue_5 (fun hc h => ?_) (fun hc h => ?_)
  · refine r_aload_n C dX10_optimalValue_14 rfl ?_
    refine bd_e h (fun v12 σ12 hf12 h => ?_)
    refine r_callVi C g_X10_findsAll hc_10 o_124 ml_X10_304 (mX10_findsAll hl hI  hf12) rfl rfl (by exact Nat.le_of_ble_eq_true rfl) ⟨Nat.le_of_ble_eq_true rfl, Nat.le_of_ble_eq_true rfl, Nat.le_of_ble_eq_true rfl⟩ dX10_optimalValue_15 ?_
    refine r_if_ne C (tgt := 27) h (by decide) dX10_optimalValue_18 (fun hc h => ?_) (fun hc h => ?_)
    · refine r_aload_n C dX10_optimalValue_27 rfl ?_
      refine r_iconst C ic_0 dX10_optimalValue_28 ?_
      refine r_putI C ck_10 f_124_0 (by decide) fl_X10_117 rfl rfl rfl rfl rfl dX10_optimalValue_29 h (fun σ13 h => ?_)
      refine r_aload_n C dX10_optimalValue_32 rfl ?_
      refine r_getR C ck_10 f_124_41 (by decide) fl_X10_90 rfl dX10_optimalValue_33 ?_
      refine r_iload_n C dX10_optimalValue_36 rfl ?_
      obtain ⟨hi, h⟩ := ck_e h
      refine r_iald C i_147 hi dX10_optimalValue_37 ?_
      exact r_iret C rfl (Nat.le_of_ble_eq_true rfl) dX10_optimalValue_38 (re_i h)
    · refine r_aload_n C dX10_optimalValue_21 rfl ?_
      refine r_iconst C ic_2 dX10_optimalValue_22 ?_
      refine bd_e h (fun v14 σ14 hf14 h => ?_)
      refine r_callVi C g_X10_fails hc_10 o_124 ml_X10_203 (mX10_fails hl hI  hf14) rfl rfl (by exact Nat.le_of_ble_eq_true rfl) ⟨Nat.le_of_ble_eq_true rfl, Nat.le_of_ble_eq_true rfl, Nat.le_of_ble_eq_true rfl⟩ dX10_optimalValue_23 ?_
      exact r_iret C rfl (Nat.le_of_ble_eq_true rfl) dX10_optimalValue_26 (re_i h)
  · refine r_aload_n C dX10_optimalValue_8 rfl ?_
    refine r_iconst C ic_1 dX10_optimalValue_9 ?_
    refine bd_e h (fun v15 σ15 hf15 h => ?_)
    refine r_callVi C g_X10_fails hc_10 o_124 ml_X10_203 (mX10_fails hl hI  hf15) rfl rfl (by exact Nat.le_of_ble_eq_true rfl) ⟨Nat.le_of_ble_eq_true rfl, Nat.le_of_ble_eq_true rfl, Nat.le_of_ble_eq_true rfl⟩ dX10_optimalValue_10 ?_
    exact r_iret C rfl (Nat.le_of_ble_eq_true rfl) dX10_optimalValue_13 (re_i h)
set_option maxHeartbeats 4000000 in
set_option maxRecDepth 100000 in
theorem mX10_worst {l : Launch} {D : va_G} {ad : Nat → Nat} {cy : Nat → ClassId} (hl : l.stackTraces = false) (hI : Inj ad)   {σ τ : Mem} {r : Int32} (h : fX10_worst σ = some (r, τ)) : Co l D ad cy yX10_worst cX10_worst 1 (Option.some Jvm.ClassFile.FieldType.int) 6 215 0 [.ref (ad 124)] σ (zi r) τ := by
  refine co_of (av := [.inr 124]) hl hI (by decide +kernel) (Nat.le_of_ble_eq_true rfl) [some (.inr 124)] rfl (fun V C => ?_)
  have C : Rl l D ad cy RX10 cX10_worst 1 (Option.some Jvm.ClassFile.FieldType.int) 6 215 0 (zi r) τ V := C
  refine r_aload_n C dX10_worst_0 rfl ?_
  refine bd_e h (fun v7 σ7 hf7 h => ?_)
  refine r_callVi C g_X10_findsAll hc_10 o_124 ml_X10_304 (mX10_findsAll hl hI  hf7) rfl rfl (by exact Nat.le_of_ble_eq_true rfl) ⟨Nat.le_of_ble_eq_true rfl, Nat.le_of_ble_eq_true rfl, Nat.le_of_ble_eq_true rfl⟩ dX10_worst_1 ?_
  refine r_if_ne C (tgt := 13) h (by decide) dX10_worst_4 (fun hc h => ?_) (fun hc h => ?_)
  · refine r_aload_n C dX10_worst_13 rfl ?_
    refine r_iconst C ic_0 dX10_worst_14 ?_
    refine r_putI C ck_10 f_124_0 (by decide) fl_X10_117 rfl rfl rfl rfl rfl dX10_worst_15 h (fun σ8 h => ?_)
    refine r_aload_n C dX10_worst_18 rfl ?_
    refine r_getI C ck_10 f_124_44 (by decide) fl_X10_289 rfl dX10_worst_19 ?_
    exact r_iret C rfl (Nat.le_of_ble_eq_true rfl) dX10_worst_22 (re_i h)
  · refine r_aload_n C dX10_worst_7 rfl ?_
    refine r_iconst C ic_1 dX10_worst_8 ?_
    refine bd_e h (fun v9 σ9 hf9 h => ?_)
    refine r_callVi C g_X10_fails hc_10 o_124 ml_X10_203 (mX10_fails hl hI  hf9) rfl rfl (by exact Nat.le_of_ble_eq_true rfl) ⟨Nat.le_of_ble_eq_true rfl, Nat.le_of_ble_eq_true rfl, Nat.le_of_ble_eq_true rfl⟩ dX10_worst_9 ?_
    exact r_iret C rfl (Nat.le_of_ble_eq_true rfl) dX10_worst_12 (re_i h)
set_option maxHeartbeats 4000000 in
set_option maxRecDepth 100000 in
theorem mX10_unavoidable {l : Launch} {D : va_G} {ad : Nat → Nat} {cy : Nat → ClassId} (hl : l.stackTraces = false) (hI : Inj ad)   {σ τ : Mem} {r : Int32} (h : fX10_unavoidable σ = some (r, τ)) : Co l D ad cy yX10_unavoidable cX10_unavoidable 3 (Option.some Jvm.ClassFile.FieldType.int) 6 215 0 [.ref (ad 124)] σ (zi r) τ := by
  refine co_of (av := [.inr 124]) hl hI (by decide +kernel) (Nat.le_of_ble_eq_true rfl) [some (.inr 124), none, none] rfl (fun V C => ?_)
  have C : Rl l D ad cy RX10 cX10_unavoidable 3 (Option.some Jvm.ClassFile.FieldType.int) 6 215 0 (zi r) τ V := C
  have L22 : ∀ (n : Nat) (σ : Mem) (l1 l2 : Int32), fX10_unavoidable_L22  n σ l1 l2 = some (r, τ) → V 0 σ 22 [some (.inr 124), some (.inl l1), some (.inl l2)] [] := by
    intro n22
    induction n22 with
    | zero => intro σ l1 l2 h; exact no_e h
    | succ n22 ih22 =>
      intro σ l1 l2 h
      have h : fX10_unavoidable_B22  (fX10_unavoidable_L22  n22) σ l1 l2 = some (r, τ) := h
      refine r_iload_n C dX10_unavoidable_22 rfl ?_
      refine r_bipush C bp_20 dX10_unavoidable_23 ?_
      refine r_ic_ge C (tgt := 45) h (by decide) dX10_unavoidable_25 (fun hc h => ?_) (fun hc h => ?_)
      · refine r_iload_n C dX10_unavoidable_45 rfl ?_
        exact r_iret C rfl (Nat.le_of_ble_eq_true rfl) dX10_unavoidable_46 (re_i h)
      · refine r_iload_n C dX10_unavoidable_28 rfl ?_
        refine r_aload_n C dX10_unavoidable_29 rfl ?_
        refine r_getI C ck_10 f_124_45 (by decide) fl_X10_298 rfl dX10_unavoidable_30 ?_
        refine r_iload_n C dX10_unavoidable_33 rfl ?_
        refine r_ishr C dX10_unavoidable_34 ?_
        refine r_iconst C ic_1 dX10_unavoidable_35 ?_
        refine r_iand C dX10_unavoidable_36 ?_
        refine r_iadd C dX10_unavoidable_37 ?_
        refine r_istoreL_n C h (by decide) dX10_unavoidable_38 (fun x9 h => ?_)
        refine r_iinc C ic_1 (by decide) dX10_unavoidable_39 rfl ?_
        refine r_goto C (tgt := 22) (by decide) dX10_unavoidable_42 ?_
        exact ih22 _ _ _ h
  refine r_aload_n C dX10_unavoidable_0 rfl ?_
  refine bd_e h (fun v10 σ10 hf10 h => ?_)
  refine r_callVi C g_X10_findsAll hc_10 o_124 ml_X10_304 (mX10_findsAll hl hI  hf10) rfl rfl (by exact Nat.le_of_ble_eq_true rfl) ⟨Nat.le_of_ble_eq_true rfl, Nat.le_of_ble_eq_true rfl, Nat.le_of_ble_eq_true rfl⟩ dX10_unavoidable_1 ?_
  refine r_if_ne C (tgt := 13) h (by decide) dX10_unavoidable_4 (fun hc h => ?_) (fun hc h => ?_)
  · refine r_aload_n C dX10_unavoidable_13 rfl ?_
    refine r_iconst C ic_0 dX10_unavoidable_14 ?_
    refine r_putI C ck_10 f_124_0 (by decide) fl_X10_117 rfl rfl rfl rfl rfl dX10_unavoidable_15 h (fun σ11 h => ?_)
    refine r_iconst C ic_0 dX10_unavoidable_18 ?_
    refine r_istore_n C (by decide) dX10_unavoidable_19 ?_
    refine r_iconst C ic_0 dX10_unavoidable_20 ?_
    refine r_istore_n C (by decide) dX10_unavoidable_21 ?_
    exact L22 FU _ _ _ h
  · refine r_aload_n C dX10_unavoidable_7 rfl ?_
    refine r_iconst C ic_1 dX10_unavoidable_8 ?_
    refine bd_e h (fun v12 σ12 hf12 h => ?_)
    refine r_callVi C g_X10_fails hc_10 o_124 ml_X10_203 (mX10_fails hl hI  hf12) rfl rfl (by exact Nat.le_of_ble_eq_true rfl) ⟨Nat.le_of_ble_eq_true rfl, Nat.le_of_ble_eq_true rfl, Nat.le_of_ble_eq_true rfl⟩ dX10_unavoidable_9 ?_
    exact r_iret C rfl (Nat.le_of_ble_eq_true rfl) dX10_unavoidable_12 (re_i h)
set_option maxHeartbeats 4000000 in
set_option maxRecDepth 100000 in
theorem mX10_append {l : Launch} {D : va_G} {ad : Nat → Nat} {cy : Nat → ClassId} (hl : l.stackTraces = false) (hI : Inj ad)   {σ τ : Mem} {a1 : Int32} {r : Int32} (h : fX10_append σ a1 = some (r, τ)) : Co l D ad cy yX10_append cX10_append 2 (Option.some Jvm.ClassFile.FieldType.int) 2 122 0 [.ref (ad 124), .int a1] σ (zi r) τ := by
  refine co_of (av := [.inr 124, .inl a1]) hl hI (by decide +kernel) (Nat.le_of_ble_eq_true rfl) [some (.inr 124), some (.inl a1)] rfl (fun V C => ?_)
  have C : Rl l D ad cy RX10 cX10_append 2 (Option.some Jvm.ClassFile.FieldType.int) 2 122 0 (zi r) τ V := C
  refine r_iload_n C dX10_append_0 rfl ?_
  refine r_bipush C bp_32 dX10_append_1 ?_
  refine r_bipush C bp_126 dX10_append_3 ?_
  refine bd_e h (fun v13 σ13 hf13 h => ?_)
  refine r_callSi C g_X10_isBetween ml_X10_199 (mX10_isBetween hl hI  hf13) rfl rfl (by exact Nat.le_of_ble_eq_true rfl) ⟨Nat.le_of_ble_eq_true rfl, Nat.le_of_ble_eq_true rfl, Nat.le_of_ble_eq_true rfl⟩ dX10_append_5 ?_
  refine r_if_ne C (tgt := 17) h (by decide) dX10_append_8 (fun hc h => ?_) (fun hc h => ?_)
  · refine r_aload_n C dX10_append_17 rfl ?_
    refine r_getI C ck_10 f_124_52 (by decide) fl_X10_307 rfl dX10_append_18 ?_
    refine r_bipush C bp_60 dX10_append_21 ?_
    refine r_ic_ne C (tgt := 32) h (by decide) dX10_append_23 (fun hc h => ?_) (fun hc h => ?_)
    · refine r_aload_n C dX10_append_32 rfl ?_
      refine r_iconst C ic_0 dX10_append_33 ?_
      refine r_putI C ck_10 f_124_0 (by decide) fl_X10_117 rfl rfl rfl rfl rfl dX10_append_34 h (fun σ14 h => ?_)
      refine r_aload_n C dX10_append_37 rfl ?_
      refine r_getR C ck_10 f_124_46 (by decide) fl_X10_93 rfl dX10_append_38 ?_
      refine r_aload_n C dX10_append_41 rfl ?_
      refine r_getI C ck_10 f_124_52 (by decide) fl_X10_307 rfl dX10_append_42 ?_
      refine r_iload_n C dX10_append_45 rfl ?_
      obtain ⟨hi, h⟩ := ck_e h
      refine r_iast C i_148 hi dX10_append_46 h (fun σ15 h => ?_)
      refine r_aload_n C dX10_append_47 rfl ?_
      refine r_dup C rfl dX10_append_48 ?_
      refine r_getI C ck_10 f_124_52 (by decide) fl_X10_307 rfl dX10_append_49 ?_
      refine r_iconst C ic_1 dX10_append_52 ?_
      refine r_iadd C dX10_append_53 ?_
      refine r_putI C ck_10 f_124_52 (by decide) fl_X10_307 rfl rfl rfl rfl rfl dX10_append_54 h (fun σ16 h => ?_)
      refine r_aload_n C dX10_append_57 rfl ?_
      refine r_getI C ck_10 f_124_52 (by decide) fl_X10_307 rfl dX10_append_58 ?_
      exact r_iret C rfl (Nat.le_of_ble_eq_true rfl) dX10_append_61 (re_i h)
    · refine r_aload_n C dX10_append_26 rfl ?_
      refine r_iconst C ic_2 dX10_append_27 ?_
      refine bd_e h (fun v17 σ17 hf17 h => ?_)
      refine r_callVi C g_X10_fails hc_10 o_124 ml_X10_203 (mX10_fails hl hI  hf17) rfl rfl (by exact Nat.le_of_ble_eq_true rfl) ⟨Nat.le_of_ble_eq_true rfl, Nat.le_of_ble_eq_true rfl, Nat.le_of_ble_eq_true rfl⟩ dX10_append_28 ?_
      exact r_iret C rfl (Nat.le_of_ble_eq_true rfl) dX10_append_31 (re_i h)
  · refine r_aload_n C dX10_append_11 rfl ?_
    refine r_iconst C ic_1 dX10_append_12 ?_
    refine bd_e h (fun v18 σ18 hf18 h => ?_)
    refine r_callVi C g_X10_fails hc_10 o_124 ml_X10_203 (mX10_fails hl hI  hf18) rfl rfl (by exact Nat.le_of_ble_eq_true rfl) ⟨Nat.le_of_ble_eq_true rfl, Nat.le_of_ble_eq_true rfl, Nat.le_of_ble_eq_true rfl⟩ dX10_append_13 ?_
    exact r_iret C rfl (Nat.le_of_ble_eq_true rfl) dX10_append_16 (re_i h)
set_option maxHeartbeats 4000000 in
set_option maxRecDepth 100000 in
theorem mX10_isNext {l : Launch} {D : va_G} {ad : Nat → Nat} {cy : Nat → ClassId} (hl : l.stackTraces = false) (hI : Inj ad)   {σ τ : Mem} {a1 a2 : Int32} {r : Int32} (h : fX10_isNext σ a1 a2 = some (r, τ)) : Co l D ad cy yX10_isNext cX10_isNext 3 (Option.some Jvm.ClassFile.FieldType.boolean) 2 122 0 [.ref (ad 124), .int a1, .int a2] σ (zi r) τ := by
  refine co_of (av := [.inr 124, .inl a1, .inl a2]) hl hI (by decide +kernel) (Nat.le_of_ble_eq_true rfl) [some (.inr 124), some (.inl a1), some (.inl a2)] rfl (fun V C => ?_)
  have C : Rl l D ad cy RX10 cX10_isNext 3 (Option.some Jvm.ClassFile.FieldType.boolean) 2 122 0 (zi r) τ V := C
  have L32 : ∀ (σ : Mem), fX10_isNext_L32   σ  = some (r, τ) → V 0 σ 32 [none, none, none] [] := by
    intro  σ  h
    refine r_iconst C ic_0 dX10_isNext_32 ?_
    exact r_zret C rfl (Nat.le_of_ble_eq_true rfl) (Or.inl rfl) dX10_isNext_33 (re_i h)
  refine r_aload_n C dX10_isNext_0 rfl ?_
  refine r_getI C ck_10 f_124_53 (by decide) fl_X10_310 rfl dX10_isNext_1 ?_
  refine r_aload_n C dX10_isNext_4 rfl ?_
  refine r_getI C ck_10 f_124_52 (by decide) fl_X10_307 rfl dX10_isNext_5 ?_
  refine r_ic_ge C (tgt := 32) h (by decide) dX10_isNext_8 (fun hc h => ?_) (fun hc h => ?_)
  · refine r_weak C [none, none, none] trivial ?_
    exact L32 _ h
  · refine r_aload_n C dX10_isNext_11 rfl ?_
    refine r_getR C ck_10 f_124_46 (by decide) fl_X10_93 rfl dX10_isNext_12 ?_
    refine r_aload_n C dX10_isNext_15 rfl ?_
    refine r_getI C ck_10 f_124_53 (by decide) fl_X10_310 rfl dX10_isNext_16 ?_
    obtain ⟨hi, h⟩ := ck_e h
    refine r_iald C i_148 hi dX10_isNext_19 ?_
    refine r_iload_n C dX10_isNext_20 rfl ?_
    refine r_iload_n C dX10_isNext_21 rfl ?_
    refine bd_e h (fun v3 σ3 hf3 h => ?_)
    refine r_callSi C g_X10_isBetween ml_X10_199 (mX10_isBetween hl hI  hf3) rfl rfl (by exact Nat.le_of_ble_eq_true rfl) ⟨Nat.le_of_ble_eq_true rfl, Nat.le_of_ble_eq_true rfl, Nat.le_of_ble_eq_true rfl⟩ dX10_isNext_22 ?_
    refine r_if_eq C (tgt := 32) h (by decide) dX10_isNext_25 (fun hc h => ?_) (fun hc h => ?_)
    · refine r_weak C [none, none, none] trivial ?_
      exact L32 _ h
    · refine r_iconst C ic_1 dX10_isNext_28 ?_
      refine r_goto C (tgt := 33) (by decide) dX10_isNext_29 ?_
      exact r_zret C rfl (Nat.le_of_ble_eq_true rfl) (Or.inr rfl) dX10_isNext_33 (re_i h)
set_option maxHeartbeats 4000000 in
set_option maxRecDepth 100000 in
theorem mX10_skips {l : Launch} {D : va_G} {ad : Nat → Nat} {cy : Nat → ClassId} (hl : l.stackTraces = false) (hI : Inj ad)   {σ τ : Mem} {a1 : Int32} {r : Int32} (h : fX10_skips σ a1 = some (r, τ)) : Co l D ad cy yX10_skips cX10_skips 2 (Option.some Jvm.ClassFile.FieldType.boolean) 3 144 0 [.ref (ad 124), .int a1] σ (zi r) τ := by
  refine co_of (av := [.inr 124, .inl a1]) hl hI (by decide +kernel) (Nat.le_of_ble_eq_true rfl) [some (.inr 124), some (.inl a1)] rfl (fun V C => ?_)
  have C : Rl l D ad cy RX10 cX10_skips 2 (Option.some Jvm.ClassFile.FieldType.boolean) 3 144 0 (zi r) τ V := C
  refine r_aload_n C dX10_skips_0 rfl ?_
  refine r_iload_n C dX10_skips_1 rfl ?_
  refine r_iload_n C dX10_skips_2 rfl ?_
  refine bd_e h (fun v5 σ5 hf5 h => ?_)
  refine r_callVi C g_X10_isNext hc_10 o_124 ml_X10_313 (mX10_isNext hl hI  hf5) rfl rfl (by exact Nat.le_of_ble_eq_true rfl) ⟨Nat.le_of_ble_eq_true rfl, Nat.le_of_ble_eq_true rfl, Nat.le_of_ble_eq_true rfl⟩ dX10_skips_3 ?_
  refine r_if_ne C (tgt := 11) h (by decide) dX10_skips_6 (fun hc h => ?_) (fun hc h => ?_)
  · refine r_aload_n C dX10_skips_11 rfl ?_
    refine r_dup C rfl dX10_skips_12 ?_
    refine r_getI C ck_10 f_124_53 (by decide) fl_X10_310 rfl dX10_skips_13 ?_
    refine r_iconst C ic_1 dX10_skips_16 ?_
    refine r_iadd C dX10_skips_17 ?_
    refine r_putI C ck_10 f_124_53 (by decide) fl_X10_310 rfl rfl rfl rfl rfl dX10_skips_18 h (fun σ6 h => ?_)
    refine r_iconst C ic_1 dX10_skips_21 ?_
    exact r_zret C rfl (Nat.le_of_ble_eq_true rfl) (Or.inr rfl) dX10_skips_22 (re_i h)
  · refine r_iconst C ic_0 dX10_skips_9 ?_
    exact r_zret C rfl (Nat.le_of_ble_eq_true rfl) (Or.inl rfl) dX10_skips_10 (re_i h)
set_option maxHeartbeats 4000000 in
set_option maxRecDepth 100000 in
theorem mX10_takesMembers {l : Launch} {D : va_G} {ad : Nat → Nat} {cy : Nat → ClassId} (hl : l.stackTraces = false) (hI : Inj ad)   {σ τ : Mem} {r : Int32} (h : fX10_takesMembers σ = some (r, τ)) : Co l D ad cy yX10_takesMembers cX10_takesMembers 3 (Option.some Jvm.ClassFile.FieldType.boolean) 3 144 0 [.ref (ad 124)] σ (zi r) τ := by
  refine co_of (av := [.inr 124]) hl hI (by decide +kernel) (Nat.le_of_ble_eq_true rfl) [some (.inr 124), none, none] rfl (fun V C => ?_)
  have C : Rl l D ad cy RX10 cX10_takesMembers 3 (Option.some Jvm.ClassFile.FieldType.boolean) 3 144 0 (zi r) τ V := C
  have L106 : ∀ (σ : Mem) (l2 : Int32), fX10_takesMembers_L106   σ l2 = some (r, τ) → V 0 σ 106 [some (.inr 124), none, some (.inl l2)] [] := by
    intro  σ l2 h
    refine r_aload_n C dX10_takesMembers_106 rfl ?_
    refine r_getR C ck_10 f_124_49 (by decide) fl_X10_102 rfl dX10_takesMembers_107 ?_
    refine r_aload_n C dX10_takesMembers_110 rfl ?_
    refine r_getI C ck_10 f_124_54 (by decide) fl_X10_316 rfl dX10_takesMembers_111 ?_
    refine r_iload_n C dX10_takesMembers_114 rfl ?_
    obtain ⟨hi, h⟩ := ck_e h
    refine r_iast C i_151 hi dX10_takesMembers_115 h (fun σ21 h => ?_)
    refine r_iconst C ic_1 dX10_takesMembers_116 ?_
    exact r_zret C rfl (Nat.le_of_ble_eq_true rfl) (Or.inr rfl) dX10_takesMembers_117 (re_i h)
  have L55 : ∀ (n : Nat) (σ : Mem) (l1 l2 : Int32), fX10_takesMembers_L55  n σ l1 l2 = some (r, τ) → V 0 σ 55 [some (.inr 124), some (.inl l1), some (.inl l2)] [] := by
    intro n55
    induction n55 with
    | zero => intro σ l1 l2 h; exact no_e h
    | succ n55 ih55 =>
      intro σ l1 l2 h
      have h : fX10_takesMembers_B55  (fX10_takesMembers_L55  n55) σ l1 l2 = some (r, τ) := h
      refine r_iload_n C dX10_takesMembers_55 rfl ?_
      refine r_bipush C bp_9 dX10_takesMembers_56 ?_
      refine r_ic_ge C (tgt := 106) h (by decide) dX10_takesMembers_58 (fun hc h => ?_) (fun hc h => ?_)
      · refine r_weak C [some (.inr 124), none, some (.inl l2)] ⟨rfl, ⟨rfl, trivial⟩⟩ ?_
        exact L106 _ _ h
      · refine r_aload_n C dX10_takesMembers_61 rfl ?_
        refine r_bipush C bp_49 dX10_takesMembers_62 ?_
        refine r_iload_n C dX10_takesMembers_64 rfl ?_
        refine r_iadd C dX10_takesMembers_65 ?_
        refine r_bipush C bp_57 dX10_takesMembers_66 ?_
        refine bd_e h (fun v22 σ22 hf22 h => ?_)
        refine r_callVi C g_X10_isNext hc_10 o_124 ml_X10_313 (mX10_isNext hl hI  hf22) rfl rfl (by exact Nat.le_of_ble_eq_true rfl) ⟨Nat.le_of_ble_eq_true rfl, Nat.le_of_ble_eq_true rfl, Nat.le_of_ble_eq_true rfl⟩ dX10_takesMembers_68 ?_
        refine r_if_eq C (tgt := 106) h (by decide) dX10_takesMembers_71 (fun hc h => ?_) (fun hc h => ?_)
        · refine r_weak C [some (.inr 124), none, some (.inl l2)] ⟨rfl, ⟨rfl, trivial⟩⟩ ?_
          exact L106 _ _ h
        · refine r_aload_n C dX10_takesMembers_74 rfl ?_
          refine r_getR C ck_10 f_124_46 (by decide) fl_X10_93 rfl dX10_takesMembers_75 ?_
          refine r_aload_n C dX10_takesMembers_78 rfl ?_
          refine r_getI C ck_10 f_124_53 (by decide) fl_X10_310 rfl dX10_takesMembers_79 ?_
          obtain ⟨hi, h⟩ := ck_e h
          refine r_iald C i_148 hi dX10_takesMembers_82 ?_
          refine r_bipush C bp_48 dX10_takesMembers_83 ?_
          refine r_isub C dX10_takesMembers_85 ?_
          refine r_istoreL_n C h (by decide) dX10_takesMembers_86 (fun x23 h => ?_)
          refine r_iload_n C dX10_takesMembers_87 rfl ?_
          refine r_iconst C ic_1 dX10_takesMembers_88 ?_
          refine r_iload_n C dX10_takesMembers_89 rfl ?_
          refine r_ishl C dX10_takesMembers_90 ?_
          refine r_ior C dX10_takesMembers_91 ?_
          refine r_istoreL_n C h (by decide) dX10_takesMembers_92 (fun x24 h => ?_)
          refine r_aload_n C dX10_takesMembers_93 rfl ?_
          refine r_dup C rfl dX10_takesMembers_94 ?_
          refine r_getI C ck_10 f_124_53 (by decide) fl_X10_310 rfl dX10_takesMembers_95 ?_
          refine r_iconst C ic_1 dX10_takesMembers_98 ?_
          refine r_iadd C dX10_takesMembers_99 ?_
          refine r_putI C ck_10 f_124_53 (by decide) fl_X10_310 rfl rfl rfl rfl rfl dX10_takesMembers_100 h (fun σ25 h => ?_)
          refine r_goto C (tgt := 55) (by decide) dX10_takesMembers_103 ?_
          exact ih55 _ _ _ h
  refine r_aload_n C dX10_takesMembers_0 rfl ?_
  refine r_bipush C bp_48 dX10_takesMembers_1 ?_
  refine r_bipush C bp_56 dX10_takesMembers_3 ?_
  refine bd_e h (fun v26 σ26 hf26 h => ?_)
  refine r_callVi C g_X10_isNext hc_10 o_124 ml_X10_313 (mX10_isNext hl hI  hf26) rfl rfl (by exact Nat.le_of_ble_eq_true rfl) ⟨Nat.le_of_ble_eq_true rfl, Nat.le_of_ble_eq_true rfl, Nat.le_of_ble_eq_true rfl⟩ dX10_takesMembers_5 ?_
  refine r_if_ne C (tgt := 13) h (by decide) dX10_takesMembers_8 (fun hc h => ?_) (fun hc h => ?_)
  · refine r_aload_n C dX10_takesMembers_13 rfl ?_
    refine r_getR C ck_10 f_124_46 (by decide) fl_X10_93 rfl dX10_takesMembers_14 ?_
    refine r_aload_n C dX10_takesMembers_17 rfl ?_
    refine r_getI C ck_10 f_124_53 (by decide) fl_X10_310 rfl dX10_takesMembers_18 ?_
    obtain ⟨hi, h⟩ := ck_e h
    refine r_iald C i_148 hi dX10_takesMembers_21 ?_
    refine r_bipush C bp_48 dX10_takesMembers_22 ?_
    refine r_isub C dX10_takesMembers_24 ?_
    refine r_istoreL_n C h (by decide) dX10_takesMembers_25 (fun x27 h => ?_)
    refine r_iconst C ic_1 dX10_takesMembers_26 ?_
    refine r_iload_n C dX10_takesMembers_27 rfl ?_
    refine r_ishl C dX10_takesMembers_28 ?_
    refine r_istoreL_n C h (by decide) dX10_takesMembers_29 (fun x28 h => ?_)
    refine r_aload_n C dX10_takesMembers_30 rfl ?_
    refine r_dup C rfl dX10_takesMembers_31 ?_
    refine r_getI C ck_10 f_124_53 (by decide) fl_X10_310 rfl dX10_takesMembers_32 ?_
    refine r_iconst C ic_1 dX10_takesMembers_35 ?_
    refine r_iadd C dX10_takesMembers_36 ?_
    refine r_putI C ck_10 f_124_53 (by decide) fl_X10_310 rfl rfl rfl rfl rfl dX10_takesMembers_37 h (fun σ29 h => ?_)
    refine r_aload_n C dX10_takesMembers_40 rfl ?_
    refine r_bipush C bp_49 dX10_takesMembers_41 ?_
    refine r_iload_n C dX10_takesMembers_43 rfl ?_
    refine r_iadd C dX10_takesMembers_44 ?_
    refine r_bipush C bp_57 dX10_takesMembers_45 ?_
    refine bd_e h (fun v30 σ30 hf30 h => ?_)
    refine r_callVi C g_X10_isNext hc_10 o_124 ml_X10_313 (mX10_isNext hl hI  hf30) rfl rfl (by exact Nat.le_of_ble_eq_true rfl) ⟨Nat.le_of_ble_eq_true rfl, Nat.le_of_ble_eq_true rfl, Nat.le_of_ble_eq_true rfl⟩ dX10_takesMembers_47 ?_
    refine r_if_ne C (tgt := 55) h (by decide) dX10_takesMembers_50 (fun hc h => ?_) (fun hc h => ?_)
    · exact L55 FU _ _ _ h
    · refine r_iconst C ic_0 dX10_takesMembers_53 ?_
      exact r_zret C rfl (Nat.le_of_ble_eq_true rfl) (Or.inl rfl) dX10_takesMembers_54 (re_i h)
  · refine r_iconst C ic_0 dX10_takesMembers_11 ?_
    exact r_zret C rfl (Nat.le_of_ble_eq_true rfl) (Or.inl rfl) dX10_takesMembers_12 (re_i h)
set_option maxHeartbeats 4000000 in
set_option maxRecDepth 100000 in
theorem mX10_takesNumber {l : Launch} {D : va_G} {ad : Nat → Nat} {cy : Nat → ClassId} (hl : l.stackTraces = false) (hI : Inj ad)   {σ τ : Mem} {r : Int32} (h : fX10_takesNumber σ = some (r, τ)) : Co l D ad cy yX10_takesNumber cX10_takesNumber 3 (Option.some Jvm.ClassFile.FieldType.boolean) 4 165 0 [.ref (ad 124)] σ (zi r) τ := by
  refine co_of (av := [.inr 124]) hl hI (by decide +kernel) (Nat.le_of_ble_eq_true rfl) [some (.inr 124), none, none] rfl (fun V C => ?_)
  have C : Rl l D ad cy RX10 cX10_takesNumber 3 (Option.some Jvm.ClassFile.FieldType.boolean) 4 165 0 (zi r) τ V := C
  have L116 : ∀ (σ : Mem) (s1 s2 : Int32), fX10_takesNumber_L116   σ s1 s2 = some (r, τ) → V 0 σ 116 [none, none, none] [.int s2, .int s1, .ref (ad 152)] := by
    intro  σ s1 s2 h
    obtain ⟨hi, h⟩ := ck_e h
    refine r_iast C i_152 hi dX10_takesNumber_116 h (fun σ17 h => ?_)
    refine r_iconst C ic_1 dX10_takesNumber_117 ?_
    exact r_zret C rfl (Nat.le_of_ble_eq_true rfl) (Or.inr rfl) dX10_takesNumber_118 (re_i h)
  have L98 : ∀ (σ : Mem) (l1 l2 : Int32), fX10_takesNumber_L98   σ l1 l2 = some (r, τ) → V 0 σ 98 [some (.inr 124), some (.inl l1), some (.inl l2)] [] := by
    intro  σ l1 l2 h
    refine r_aload_n C dX10_takesNumber_98 rfl ?_
    refine r_getR C ck_10 f_124_50 (by decide) fl_X10_105 rfl dX10_takesNumber_99 ?_
    refine r_aload_n C dX10_takesNumber_102 rfl ?_
    refine r_getI C ck_10 f_124_54 (by decide) fl_X10_316 rfl dX10_takesNumber_103 ?_
    refine r_iload_n C dX10_takesNumber_106 rfl ?_
    refine r_if_eq C (tgt := 115) h (by decide) dX10_takesNumber_107 (fun hc h => ?_) (fun hc h => ?_)
    · refine r_iload_n C dX10_takesNumber_115 rfl ?_
      refine r_weak C [none, none, none] trivial ?_
      exact L116 _ _ _ h
    · refine r_iload_n C dX10_takesNumber_110 rfl ?_
      refine r_ineg C dX10_takesNumber_111 ?_
      refine r_goto C (tgt := 116) (by decide) dX10_takesNumber_112 ?_
      refine r_weak C [none, none, none] trivial ?_
      exact L116 _ _ _ h
  have L64 : ∀ (σ : Mem) (l1 l2 s1 s2 : Int32), fX10_takesNumber_L64   σ l1 l2 s1 s2 = some (r, τ) → V 0 σ 64 [some (.inr 124), some (.inl l1), some (.inl l2)] [.int s2, .int s1, .ref (ad 124)] := by
    intro  σ l1 l2 s1 s2 h
    refine bd_e h (fun v18 σ18 hf18 h => ?_)
    refine r_callVi C g_X10_isNext hc_10 o_124 ml_X10_313 (mX10_isNext hl hI  hf18) rfl rfl (by exact Nat.le_of_ble_eq_true rfl) ⟨Nat.le_of_ble_eq_true rfl, Nat.le_of_ble_eq_true rfl, Nat.le_of_ble_eq_true rfl⟩ dX10_takesNumber_64 ?_
    refine r_if_eq C (tgt := 98) h (by decide) dX10_takesNumber_67 (fun hc h => ?_) (fun hc h => ?_)
    · exact L98 _ _ _ h
    · refine r_bipush C bp_10 dX10_takesNumber_70 ?_
      refine r_iload_n C dX10_takesNumber_72 rfl ?_
      refine r_imul C dX10_takesNumber_73 ?_
      refine r_aload_n C dX10_takesNumber_74 rfl ?_
      refine r_getR C ck_10 f_124_46 (by decide) fl_X10_93 rfl dX10_takesNumber_75 ?_
      refine r_aload_n C dX10_takesNumber_78 rfl ?_
      refine r_getI C ck_10 f_124_53 (by decide) fl_X10_310 rfl dX10_takesNumber_79 ?_
      obtain ⟨hi, h⟩ := ck_e h
      refine r_iald C i_148 hi dX10_takesNumber_82 ?_
      refine r_iadd C dX10_takesNumber_83 ?_
      refine r_bipush C bp_48 dX10_takesNumber_84 ?_
      refine r_isub C dX10_takesNumber_86 ?_
      refine r_istoreL_n C h (by decide) dX10_takesNumber_87 (fun x19 h => ?_)
      refine r_aload_n C dX10_takesNumber_88 rfl ?_
      refine r_dup C rfl dX10_takesNumber_89 ?_
      refine r_getI C ck_10 f_124_53 (by decide) fl_X10_310 rfl dX10_takesNumber_90 ?_
      refine r_iconst C ic_1 dX10_takesNumber_93 ?_
      refine r_iadd C dX10_takesNumber_94 ?_
      refine r_putI C ck_10 f_124_53 (by decide) fl_X10_310 rfl rfl rfl rfl rfl dX10_takesNumber_95 h (fun σ20 h => ?_)
      exact L98 _ _ _ h
  refine r_aload_n C dX10_takesNumber_0 rfl ?_
  refine r_bipush C bp_45 dX10_takesNumber_1 ?_
  refine bd_e h (fun v21 σ21 hf21 h => ?_)
  refine r_callVi C g_X10_skips hc_10 o_124 ml_X10_319 (mX10_skips hl hI  hf21) rfl rfl (by exact Nat.le_of_ble_eq_true rfl) ⟨Nat.le_of_ble_eq_true rfl, Nat.le_of_ble_eq_true rfl, Nat.le_of_ble_eq_true rfl⟩ dX10_takesNumber_3 ?_
  refine r_istore_n C (by decide) dX10_takesNumber_6 ?_
  refine r_aload_n C dX10_takesNumber_7 rfl ?_
  refine r_bipush C bp_48 dX10_takesNumber_8 ?_
  refine r_bipush C bp_57 dX10_takesNumber_10 ?_
  refine bd_e h (fun v22 σ22 hf22 h => ?_)
  refine r_callVi C g_X10_isNext hc_10 o_124 ml_X10_313 (mX10_isNext hl hI  hf22) rfl rfl (by exact Nat.le_of_ble_eq_true rfl) ⟨Nat.le_of_ble_eq_true rfl, Nat.le_of_ble_eq_true rfl, Nat.le_of_ble_eq_true rfl⟩ dX10_takesNumber_12 ?_
  refine r_if_ne C (tgt := 20) h (by decide) dX10_takesNumber_15 (fun hc h => ?_) (fun hc h => ?_)
  · refine r_aload_n C dX10_takesNumber_20 rfl ?_
    refine r_getR C ck_10 f_124_46 (by decide) fl_X10_93 rfl dX10_takesNumber_21 ?_
    refine r_aload_n C dX10_takesNumber_24 rfl ?_
    refine r_getI C ck_10 f_124_53 (by decide) fl_X10_310 rfl dX10_takesNumber_25 ?_
    obtain ⟨hi, h⟩ := ck_e h
    refine r_iald C i_148 hi dX10_takesNumber_28 ?_
    refine r_bipush C bp_48 dX10_takesNumber_29 ?_
    refine r_isub C dX10_takesNumber_31 ?_
    refine r_istoreL_n C h (by decide) dX10_takesNumber_32 (fun x23 h => ?_)
    refine r_aload_n C dX10_takesNumber_33 rfl ?_
    refine r_dup C rfl dX10_takesNumber_34 ?_
    refine r_getI C ck_10 f_124_53 (by decide) fl_X10_310 rfl dX10_takesNumber_35 ?_
    refine r_iconst C ic_1 dX10_takesNumber_38 ?_
    refine r_iadd C dX10_takesNumber_39 ?_
    refine r_putI C ck_10 f_124_53 (by decide) fl_X10_310 rfl rfl rfl rfl rfl dX10_takesNumber_40 h (fun σ24 h => ?_)
    refine r_iload_n C dX10_takesNumber_43 rfl ?_
    refine r_bipush C bp_6 dX10_takesNumber_44 ?_
    refine r_ic_ge C (tgt := 98) h (by decide) dX10_takesNumber_46 (fun hc h => ?_) (fun hc h => ?_)
    · exact L98 _ _ _ h
    · refine r_aload_n C dX10_takesNumber_49 rfl ?_
      refine r_bipush C bp_48 dX10_takesNumber_50 ?_
      refine r_iload_n C dX10_takesNumber_52 rfl ?_
      refine r_iconst C ic_5 dX10_takesNumber_53 ?_
      refine r_ic_ne C (tgt := 62) h (by decide) dX10_takesNumber_54 (fun hc h => ?_) (fun hc h => ?_)
      · refine r_bipush C bp_57 dX10_takesNumber_62 ?_
        exact L64 _ _ _ _ _ h
      · refine r_bipush C bp_48 dX10_takesNumber_57 ?_
        refine r_goto C (tgt := 64) (by decide) dX10_takesNumber_59 ?_
        exact L64 _ _ _ _ _ h
  · refine r_iconst C ic_0 dX10_takesNumber_18 ?_
    exact r_zret C rfl (Nat.le_of_ble_eq_true rfl) (Or.inl rfl) dX10_takesNumber_19 (re_i h)
set_option maxHeartbeats 4000000 in
set_option maxRecDepth 100000 in
theorem mX10_takesEntry {l : Launch} {D : va_G} {ad : Nat → Nat} {cy : Nat → ClassId} (hl : l.stackTraces = false) (hI : Inj ad)   {σ τ : Mem} {r : Int32} (h : fX10_takesEntry σ = some (r, τ)) : Co l D ad cy yX10_takesEntry cX10_takesEntry 1 (Option.some Jvm.ClassFile.FieldType.boolean) 5 187 0 [.ref (ad 124)] σ (zi r) τ := by
  refine co_of (av := [.inr 124]) hl hI (by decide +kernel) (Nat.le_of_ble_eq_true rfl) [some (.inr 124)] rfl (fun V C => ?_)
  have C : Rl l D ad cy RX10 cX10_takesEntry 1 (Option.some Jvm.ClassFile.FieldType.boolean) 5 187 0 (zi r) τ V := C
  have L166 : ∀ (σ : Mem), fX10_takesEntry_L166   σ  = some (r, τ) → V 0 σ 166 [some (.inr 124)] [] := by
    intro  σ  h
    refine r_aload_n C dX10_takesEntry_166 rfl ?_
    refine r_dup C rfl dX10_takesEntry_167 ?_
    refine r_getI C ck_10 f_124_53 (by decide) fl_X10_310 rfl dX10_takesEntry_168 ?_
    refine r_iconst C ic_1 dX10_takesEntry_171 ?_
    refine r_iadd C dX10_takesEntry_172 ?_
    refine r_putI C ck_10 f_124_53 (by decide) fl_X10_310 rfl rfl rfl rfl rfl dX10_takesEntry_173 h (fun σ33 h => ?_)
    refine r_aload_n C dX10_takesEntry_176 rfl ?_
    refine r_dup C rfl dX10_takesEntry_177 ?_
    refine r_getI C ck_10 f_124_54 (by decide) fl_X10_316 rfl dX10_takesEntry_178 ?_
    refine r_iconst C ic_1 dX10_takesEntry_181 ?_
    refine r_iadd C dX10_takesEntry_182 ?_
    refine r_putI C ck_10 f_124_54 (by decide) fl_X10_316 rfl rfl rfl rfl rfl dX10_takesEntry_183 h (fun σ34 h => ?_)
    refine r_aload_n C dX10_takesEntry_186 rfl ?_
    refine r_bipush C bp_59 dX10_takesEntry_187 ?_
    refine bd_e h (fun v35 σ35 hf35 h => ?_)
    refine r_callVi C g_X10_skips hc_10 o_124 ml_X10_319 (mX10_skips hl hI  hf35) rfl rfl (by exact Nat.le_of_ble_eq_true rfl) ⟨Nat.le_of_ble_eq_true rfl, Nat.le_of_ble_eq_true rfl, Nat.le_of_ble_eq_true rfl⟩ dX10_takesEntry_189 ?_
    obtain ⟨hz, h⟩ := ckz_e h
    exact r_zret C rfl (Nat.le_of_ble_eq_true rfl) hz dX10_takesEntry_192 (re_i h)
  have L143 : ∀ (σ : Mem), fX10_takesEntry_L143   σ  = some (r, τ) → V 0 σ 143 [none] [] := by
    intro  σ  h
    refine r_iconst C ic_0 dX10_takesEntry_143 ?_
    exact r_zret C rfl (Nat.le_of_ble_eq_true rfl) (Or.inl rfl) dX10_takesEntry_144 (re_i h)
  refine r_aload_n C dX10_takesEntry_0 rfl ?_
  refine r_bipush C bp_118 dX10_takesEntry_1 ?_
  refine bd_e h (fun v36 σ36 hf36 h => ?_)
  refine r_callVi C g_X10_skips hc_10 o_124 ml_X10_319 (mX10_skips hl hI  hf36) rfl rfl (by exact Nat.le_of_ble_eq_true rfl) ⟨Nat.le_of_ble_eq_true rfl, Nat.le_of_ble_eq_true rfl, Nat.le_of_ble_eq_true rfl⟩ dX10_takesEntry_3 ?_
  refine r_if_eq C (tgt := 46) h (by decide) dX10_takesEntry_6 (fun hc h => ?_) (fun hc h => ?_)
  · refine r_aload_n C dX10_takesEntry_46 rfl ?_
    refine r_bipush C bp_97 dX10_takesEntry_47 ?_
    refine r_bipush C bp_102 dX10_takesEntry_49 ?_
    refine bd_e h (fun v37 σ37 hf37 h => ?_)
    refine r_callVi C g_X10_isNext hc_10 o_124 ml_X10_313 (mX10_isNext hl hI  hf37) rfl rfl (by exact Nat.le_of_ble_eq_true rfl) ⟨Nat.le_of_ble_eq_true rfl, Nat.le_of_ble_eq_true rfl, Nat.le_of_ble_eq_true rfl⟩ dX10_takesEntry_51 ?_
    refine r_if_ne C (tgt := 59) h (by decide) dX10_takesEntry_54 (fun hc h => ?_) (fun hc h => ?_)
    · refine r_aload_n C dX10_takesEntry_59 rfl ?_
      refine r_getR C ck_10 f_124_47 (by decide) fl_X10_96 rfl dX10_takesEntry_60 ?_
      refine r_aload_n C dX10_takesEntry_63 rfl ?_
      refine r_getI C ck_10 f_124_54 (by decide) fl_X10_316 rfl dX10_takesEntry_64 ?_
      refine r_iconst C ic_0 dX10_takesEntry_67 ?_
      obtain ⟨hi, h⟩ := ck_e h
      refine r_iast C i_149 hi dX10_takesEntry_68 h (fun σ38 h => ?_)
      refine r_aload_n C dX10_takesEntry_69 rfl ?_
      refine r_getR C ck_10 f_124_48 (by decide) fl_X10_99 rfl dX10_takesEntry_70 ?_
      refine r_aload_n C dX10_takesEntry_73 rfl ?_
      refine r_getI C ck_10 f_124_54 (by decide) fl_X10_316 rfl dX10_takesEntry_74 ?_
      refine r_aload_n C dX10_takesEntry_77 rfl ?_
      refine r_getR C ck_10 f_124_46 (by decide) fl_X10_93 rfl dX10_takesEntry_78 ?_
      refine r_aload_n C dX10_takesEntry_81 rfl ?_
      refine r_getI C ck_10 f_124_53 (by decide) fl_X10_310 rfl dX10_takesEntry_82 ?_
      obtain ⟨hi, h⟩ := ck_e h
      refine r_iald C i_148 hi dX10_takesEntry_85 ?_
      refine r_bipush C bp_97 dX10_takesEntry_86 ?_
      refine r_isub C dX10_takesEntry_88 ?_
      obtain ⟨hi, h⟩ := ck_e h
      refine r_iast C i_150 hi dX10_takesEntry_89 h (fun σ39 h => ?_)
      refine r_aload_n C dX10_takesEntry_90 rfl ?_
      refine r_dup C rfl dX10_takesEntry_91 ?_
      refine r_getI C ck_10 f_124_53 (by decide) fl_X10_310 rfl dX10_takesEntry_92 ?_
      refine r_iconst C ic_1 dX10_takesEntry_95 ?_
      refine r_iadd C dX10_takesEntry_96 ?_
      refine r_putI C ck_10 f_124_53 (by decide) fl_X10_310 rfl rfl rfl rfl rfl dX10_takesEntry_97 h (fun σ40 h => ?_)
      refine r_aload_n C dX10_takesEntry_100 rfl ?_
      refine bd_e h (fun v41 σ41 hf41 h => ?_)
      refine r_callVi C g_X10_takesMembers hc_10 o_124 ml_X10_322 (mX10_takesMembers hl hI  hf41) rfl rfl (by exact Nat.le_of_ble_eq_true rfl) ⟨Nat.le_of_ble_eq_true rfl, Nat.le_of_ble_eq_true rfl, Nat.le_of_ble_eq_true rfl⟩ dX10_takesEntry_101 ?_
      refine r_if_eq C (tgt := 143) h (by decide) dX10_takesEntry_104 (fun hc h => ?_) (fun hc h => ?_)
      · refine r_weak C [none] trivial ?_
        exact L143 _ h
      · refine r_aload_n C dX10_takesEntry_107 rfl ?_
        refine r_bipush C bp_58 dX10_takesEntry_108 ?_
        refine bd_e h (fun v42 σ42 hf42 h => ?_)
        refine r_callVi C g_X10_skips hc_10 o_124 ml_X10_319 (mX10_skips hl hI  hf42) rfl rfl (by exact Nat.le_of_ble_eq_true rfl) ⟨Nat.le_of_ble_eq_true rfl, Nat.le_of_ble_eq_true rfl, Nat.le_of_ble_eq_true rfl⟩ dX10_takesEntry_110 ?_
        refine r_if_eq C (tgt := 143) h (by decide) dX10_takesEntry_113 (fun hc h => ?_) (fun hc h => ?_)
        · refine r_weak C [none] trivial ?_
          exact L143 _ h
        · refine r_aload_n C dX10_takesEntry_116 rfl ?_
          refine bd_e h (fun v43 σ43 hf43 h => ?_)
          refine r_callVi C g_X10_takesNumber hc_10 o_124 ml_X10_325 (mX10_takesNumber hl hI  hf43) rfl rfl (by exact Nat.le_of_ble_eq_true rfl) ⟨Nat.le_of_ble_eq_true rfl, Nat.le_of_ble_eq_true rfl, Nat.le_of_ble_eq_true rfl⟩ dX10_takesEntry_117 ?_
          refine r_if_eq C (tgt := 143) h (by decide) dX10_takesEntry_120 (fun hc h => ?_) (fun hc h => ?_)
          · refine r_weak C [none] trivial ?_
            exact L143 _ h
          · refine r_aload_n C dX10_takesEntry_123 rfl ?_
            refine r_bipush C bp_42 dX10_takesEntry_124 ?_
            refine bd_e h (fun v44 σ44 hf44 h => ?_)
            refine r_callVi C g_X10_skips hc_10 o_124 ml_X10_319 (mX10_skips hl hI  hf44) rfl rfl (by exact Nat.le_of_ble_eq_true rfl) ⟨Nat.le_of_ble_eq_true rfl, Nat.le_of_ble_eq_true rfl, Nat.le_of_ble_eq_true rfl⟩ dX10_takesEntry_126 ?_
            refine r_if_eq C (tgt := 143) h (by decide) dX10_takesEntry_129 (fun hc h => ?_) (fun hc h => ?_)
            · refine r_weak C [none] trivial ?_
              exact L143 _ h
            · refine r_aload_n C dX10_takesEntry_132 rfl ?_
              refine r_bipush C bp_49 dX10_takesEntry_133 ?_
              refine r_bipush C bp_57 dX10_takesEntry_135 ?_
              refine bd_e h (fun v45 σ45 hf45 h => ?_)
              refine r_callVi C g_X10_isNext hc_10 o_124 ml_X10_313 (mX10_isNext hl hI  hf45) rfl rfl (by exact Nat.le_of_ble_eq_true rfl) ⟨Nat.le_of_ble_eq_true rfl, Nat.le_of_ble_eq_true rfl, Nat.le_of_ble_eq_true rfl⟩ dX10_takesEntry_137 ?_
              refine r_if_ne C (tgt := 145) h (by decide) dX10_takesEntry_140 (fun hc h => ?_) (fun hc h => ?_)
              · refine r_aload_n C dX10_takesEntry_145 rfl ?_
                refine r_getR C ck_10 f_124_51 (by decide) fl_X10_108 rfl dX10_takesEntry_146 ?_
                refine r_aload_n C dX10_takesEntry_149 rfl ?_
                refine r_getI C ck_10 f_124_54 (by decide) fl_X10_316 rfl dX10_takesEntry_150 ?_
                refine r_aload_n C dX10_takesEntry_153 rfl ?_
                refine r_getR C ck_10 f_124_46 (by decide) fl_X10_93 rfl dX10_takesEntry_154 ?_
                refine r_aload_n C dX10_takesEntry_157 rfl ?_
                refine r_getI C ck_10 f_124_53 (by decide) fl_X10_310 rfl dX10_takesEntry_158 ?_
                obtain ⟨hi, h⟩ := ck_e h
                refine r_iald C i_148 hi dX10_takesEntry_161 ?_
                refine r_bipush C bp_48 dX10_takesEntry_162 ?_
                refine r_isub C dX10_takesEntry_164 ?_
                obtain ⟨hi, h⟩ := ck_e h
                refine r_iast C i_153 hi dX10_takesEntry_165 h (fun σ46 h => ?_)
                exact L166 _ h
              · refine r_weak C [none] trivial ?_
                exact L143 _ h
    · refine r_iconst C ic_0 dX10_takesEntry_57 ?_
      exact r_zret C rfl (Nat.le_of_ble_eq_true rfl) (Or.inl rfl) dX10_takesEntry_58 (re_i h)
  · refine r_aload_n C dX10_takesEntry_9 rfl ?_
    refine r_bipush C bp_50 dX10_takesEntry_10 ?_
    refine r_bipush C bp_56 dX10_takesEntry_12 ?_
    refine bd_e h (fun v47 σ47 hf47 h => ?_)
    refine r_callVi C g_X10_isNext hc_10 o_124 ml_X10_313 (mX10_isNext hl hI  hf47) rfl rfl (by exact Nat.le_of_ble_eq_true rfl) ⟨Nat.le_of_ble_eq_true rfl, Nat.le_of_ble_eq_true rfl, Nat.le_of_ble_eq_true rfl⟩ dX10_takesEntry_14 ?_
    refine r_if_ne C (tgt := 22) h (by decide) dX10_takesEntry_17 (fun hc h => ?_) (fun hc h => ?_)
    · refine r_aload_n C dX10_takesEntry_22 rfl ?_
      refine r_getR C ck_10 f_124_47 (by decide) fl_X10_96 rfl dX10_takesEntry_23 ?_
      refine r_aload_n C dX10_takesEntry_26 rfl ?_
      refine r_getI C ck_10 f_124_54 (by decide) fl_X10_316 rfl dX10_takesEntry_27 ?_
      refine r_aload_n C dX10_takesEntry_30 rfl ?_
      refine r_getR C ck_10 f_124_46 (by decide) fl_X10_93 rfl dX10_takesEntry_31 ?_
      refine r_aload_n C dX10_takesEntry_34 rfl ?_
      refine r_getI C ck_10 f_124_53 (by decide) fl_X10_310 rfl dX10_takesEntry_35 ?_
      obtain ⟨hi, h⟩ := ck_e h
      refine r_iald C i_148 hi dX10_takesEntry_38 ?_
      refine r_bipush C bp_48 dX10_takesEntry_39 ?_
      refine r_isub C dX10_takesEntry_41 ?_
      obtain ⟨hi, h⟩ := ck_e h
      refine r_iast C i_149 hi dX10_takesEntry_42 h (fun σ48 h => ?_)
      refine r_goto C (tgt := 166) (by decide) dX10_takesEntry_43 ?_
      exact L166 _ h
    · refine r_iconst C ic_0 dX10_takesEntry_20 ?_
      exact r_zret C rfl (Nat.le_of_ble_eq_true rfl) (Or.inl rfl) dX10_takesEntry_21 (re_i h)
set_option maxHeartbeats 4000000 in
set_option maxRecDepth 100000 in
theorem mX10_takesText {l : Launch} {D : va_G} {ad : Nat → Nat} {cy : Nat → ClassId} (hl : l.stackTraces = false) (hI : Inj ad)   {σ τ : Mem} {r : Int32} (h : fX10_takesText σ = some (r, τ)) : Co l D ad cy yX10_takesText cX10_takesText 1 (Option.some Jvm.ClassFile.FieldType.boolean) 6 207 0 [.ref (ad 124)] σ (zi r) τ := by
  refine co_of (av := [.inr 124]) hl hI (by decide +kernel) (Nat.le_of_ble_eq_true rfl) [some (.inr 124)] rfl (fun V C => ?_)
  have C : Rl l D ad cy RX10 cX10_takesText 1 (Option.some Jvm.ClassFile.FieldType.boolean) 6 207 0 (zi r) τ V := C
  have L10 : ∀ (n : Nat) (σ : Mem), fX10_takesText_L10  n σ  = some (r, τ) → V 0 σ 10 [some (.inr 124)] [] := by
    intro n10
    induction n10 with
    | zero => intro σ  h; exact no_e h
    | succ n10 ih10 =>
      intro σ  h
      have h : fX10_takesText_B10  (fX10_takesText_L10  n10) σ  = some (r, τ) := h
      refine r_aload_n C dX10_takesText_10 rfl ?_
      refine bd_e h (fun v7 σ7 hf7 h => ?_)
      refine r_callVi C g_X10_takesEntry hc_10 o_124 ml_X10_328 (mX10_takesEntry hl hI  hf7) rfl rfl (by exact Nat.le_of_ble_eq_true rfl) ⟨Nat.le_of_ble_eq_true rfl, Nat.le_of_ble_eq_true rfl, Nat.le_of_ble_eq_true rfl⟩ dX10_takesText_11 ?_
      refine r_if_ne C (tgt := 19) h (by decide) dX10_takesText_14 (fun hc h => ?_) (fun hc h => ?_)
      · refine r_aload_n C dX10_takesText_19 rfl ?_
        refine r_getI C ck_10 f_124_53 (by decide) fl_X10_310 rfl dX10_takesText_20 ?_
        refine r_aload_n C dX10_takesText_23 rfl ?_
        refine r_getI C ck_10 f_124_52 (by decide) fl_X10_307 rfl dX10_takesText_24 ?_
        refine r_ic_lt C (tgt := 10) h (by decide) dX10_takesText_27 (fun hc h => ?_) (fun hc h => ?_)
        · exact ih10 _ h
        · refine r_iconst C ic_1 dX10_takesText_30 ?_
          exact r_zret C rfl (Nat.le_of_ble_eq_true rfl) (Or.inr rfl) dX10_takesText_31 (re_i h)
      · refine r_iconst C ic_0 dX10_takesText_17 ?_
        exact r_zret C rfl (Nat.le_of_ble_eq_true rfl) (Or.inl rfl) dX10_takesText_18 (re_i h)
  refine r_aload_n C dX10_takesText_0 rfl ?_
  refine r_iconst C ic_0 dX10_takesText_1 ?_
  refine r_putI C ck_10 f_124_53 (by decide) fl_X10_310 rfl rfl rfl rfl rfl dX10_takesText_2 h (fun σ8 h => ?_)
  refine r_aload_n C dX10_takesText_5 rfl ?_
  refine r_iconst C ic_0 dX10_takesText_6 ?_
  refine r_putI C ck_10 f_124_54 (by decide) fl_X10_316 rfl rfl rfl rfl rfl dX10_takesText_7 h (fun σ9 h => ?_)
  exact L10 FU _ h
set_option maxHeartbeats 4000000 in
set_option maxRecDepth 100000 in
theorem mX10_comesAll {l : Launch} {D : va_G} {ad : Nat → Nat} {cy : Nat → ClassId} (hl : l.stackTraces = false) (hI : Inj ad)   {σ τ : Mem} {r : Int32} (h : fX10_comesAll σ = some (r, τ)) : Co l D ad cy yX10_comesAll cX10_comesAll 2 (Option.some Jvm.ClassFile.FieldType.boolean) 2 124 0 [.ref (ad 124)] σ (zi r) τ := by
  refine co_of (av := [.inr 124]) hl hI (by decide +kernel) (Nat.le_of_ble_eq_true rfl) [some (.inr 124), none] rfl (fun V C => ?_)
  have C : Rl l D ad cy RX10 cX10_comesAll 2 (Option.some Jvm.ClassFile.FieldType.boolean) 2 124 0 (zi r) τ V := C
  have L65 : ∀ (σ : Mem), fX10_comesAll_L65   σ  = some (r, τ) → V 0 σ 65 [none, none] [] := by
    intro  σ  h
    refine r_iconst C ic_0 dX10_comesAll_65 ?_
    exact r_zret C rfl (Nat.le_of_ble_eq_true rfl) (Or.inl rfl) dX10_comesAll_66 (re_i h)
  have L2 : ∀ (n : Nat) (σ : Mem) (l1 : Int32), fX10_comesAll_L2  n σ l1 = some (r, τ) → V 0 σ 2 [some (.inr 124), some (.inl l1)] [] := by
    intro n2
    induction n2 with
    | zero => intro σ l1 h; exact no_e h
    | succ n2 ih2 =>
      have L95 : ∀ (σ : Mem) (l1 : Int32), fX10_comesAll_L95 (fX10_comesAll_L2  n2)  σ l1 = some (r, τ) → V 0 σ 95 [some (.inr 124), some (.inl l1)] [] := by
        intro  σ l1 h
        refine r_iinc C ic_1 (by decide) dX10_comesAll_95 rfl ?_
        refine r_goto C (tgt := 2) (by decide) dX10_comesAll_98 ?_
        exact ih2 _ _ h
      intro σ l1 h
      have h : fX10_comesAll_B2  (fX10_comesAll_L2  n2) σ l1 = some (r, τ) := h
      refine r_iload_n C dX10_comesAll_2 rfl ?_
      refine r_aload_n C dX10_comesAll_3 rfl ?_
      refine r_getI C ck_10 f_124_54 (by decide) fl_X10_316 rfl dX10_comesAll_4 ?_
      refine r_ic_ge C (tgt := 101) h (by decide) dX10_comesAll_7 (fun hc h => ?_) (fun hc h => ?_)
      · refine r_iconst C ic_1 dX10_comesAll_101 ?_
        exact r_zret C rfl (Nat.le_of_ble_eq_true rfl) (Or.inr rfl) dX10_comesAll_102 (re_i h)
      · refine r_aload_n C dX10_comesAll_10 rfl ?_
        refine r_getR C ck_10 f_124_47 (by decide) fl_X10_96 rfl dX10_comesAll_11 ?_
        refine r_iload_n C dX10_comesAll_14 rfl ?_
        obtain ⟨hi, h⟩ := ck_e h
        refine r_iald C i_149 hi dX10_comesAll_15 ?_
        refine r_if_le C (tgt := 43) h (by decide) dX10_comesAll_16 (fun hc h => ?_) (fun hc h => ?_)
        · refine r_aload_n C dX10_comesAll_43 rfl ?_
          refine r_getI C ck_10 f_124_8 (by decide) fl_X10_123 rfl dX10_comesAll_44 ?_
          refine r_bipush C bp_20 dX10_comesAll_47 ?_
          refine r_ic_eq C (tgt := 65) h (by decide) dX10_comesAll_49 (fun hc h => ?_) (fun hc h => ?_)
          · refine r_weak C [none, none] trivial ?_
            exact L65 _ h
          · refine r_aload_n C dX10_comesAll_52 rfl ?_
            refine r_aload_n C dX10_comesAll_53 rfl ?_
            refine r_getR C ck_10 f_124_49 (by decide) fl_X10_102 rfl dX10_comesAll_54 ?_
            refine r_iload_n C dX10_comesAll_57 rfl ?_
            obtain ⟨hi, h⟩ := ck_e h
            refine r_iald C i_151 hi dX10_comesAll_58 ?_
            refine bd_e h (fun v7 σ7 hf7 h => ?_)
            refine r_callVi C g_X10_doExist hc_10 o_124 ml_X10_218 (mX10_doExist hl hI  hf7) rfl rfl (by exact Nat.le_of_ble_eq_true rfl) ⟨Nat.le_of_ble_eq_true rfl, Nat.le_of_ble_eq_true rfl, Nat.le_of_ble_eq_true rfl⟩ dX10_comesAll_59 ?_
            refine r_if_ne C (tgt := 67) h (by decide) dX10_comesAll_62 (fun hc h => ?_) (fun hc h => ?_)
            · refine r_aload_n C dX10_comesAll_67 rfl ?_
              refine r_aload_n C dX10_comesAll_68 rfl ?_
              refine r_getR C ck_10 f_124_48 (by decide) fl_X10_99 rfl dX10_comesAll_69 ?_
              refine r_iload_n C dX10_comesAll_72 rfl ?_
              obtain ⟨hi, h⟩ := ck_e h
              refine r_iald C i_150 hi dX10_comesAll_73 ?_
              refine r_aload_n C dX10_comesAll_74 rfl ?_
              refine r_getR C ck_10 f_124_49 (by decide) fl_X10_102 rfl dX10_comesAll_75 ?_
              refine r_iload_n C dX10_comesAll_78 rfl ?_
              obtain ⟨hi, h⟩ := ck_e h
              refine r_iald C i_151 hi dX10_comesAll_79 ?_
              refine r_aload_n C dX10_comesAll_80 rfl ?_
              refine r_getR C ck_10 f_124_50 (by decide) fl_X10_105 rfl dX10_comesAll_81 ?_
              refine r_iload_n C dX10_comesAll_84 rfl ?_
              obtain ⟨hi, h⟩ := ck_e h
              refine r_iald C i_152 hi dX10_comesAll_85 ?_
              refine r_aload_n C dX10_comesAll_86 rfl ?_
              refine r_getR C ck_10 f_124_51 (by decide) fl_X10_108 rfl dX10_comesAll_87 ?_
              refine r_iload_n C dX10_comesAll_90 rfl ?_
              obtain ⟨hi, h⟩ := ck_e h
              refine r_iald C i_153 hi dX10_comesAll_91 ?_
              refine bv_e h (fun σ8 hf8 h => ?_)
              refine r_callVv C g_X10_comesConstraint hc_10 o_124 ml_X10_224 (mX10_comesConstraint hl hI  hf8) rfl rfl (by exact Nat.le_of_ble_eq_true rfl) ⟨Nat.le_of_ble_eq_true rfl, Nat.le_of_ble_eq_true rfl, Nat.le_of_ble_eq_true rfl⟩ dX10_comesAll_92 ?_
              exact L95 _ _ h
            · refine r_weak C [none, none] trivial ?_
              exact L65 _ h
        · refine r_aload_n C dX10_comesAll_19 rfl ?_
          refine r_getI C ck_10 f_124_7 (by decide) fl_X10_120 rfl dX10_comesAll_20 ?_
          refine r_bipush C bp_10 dX10_comesAll_23 ?_
          refine r_ic_ne C (tgt := 30) h (by decide) dX10_comesAll_25 (fun hc h => ?_) (fun hc h => ?_)
          · refine r_aload_n C dX10_comesAll_30 rfl ?_
            refine r_aload_n C dX10_comesAll_31 rfl ?_
            refine r_getR C ck_10 f_124_47 (by decide) fl_X10_96 rfl dX10_comesAll_32 ?_
            refine r_iload_n C dX10_comesAll_35 rfl ?_
            obtain ⟨hi, h⟩ := ck_e h
            refine r_iald C i_149 hi dX10_comesAll_36 ?_
            refine bv_e h (fun σ9 hf9 h => ?_)
            refine r_callVv C g_X10_comesVariable hc_10 o_124 ml_X10_210 (mX10_comesVariable hl hI  hf9) rfl rfl (by exact Nat.le_of_ble_eq_true rfl) ⟨Nat.le_of_ble_eq_true rfl, Nat.le_of_ble_eq_true rfl, Nat.le_of_ble_eq_true rfl⟩ dX10_comesAll_37 ?_
            refine r_goto C (tgt := 95) (by decide) dX10_comesAll_40 ?_
            exact L95 _ _ h
          · refine r_iconst C ic_0 dX10_comesAll_28 ?_
            exact r_zret C rfl (Nat.le_of_ble_eq_true rfl) (Or.inl rfl) dX10_comesAll_29 (re_i h)
  refine r_iconst C ic_0 dX10_comesAll_0 ?_
  refine r_istore_n C (by decide) dX10_comesAll_1 ?_
  exact L2 FU _ _ h
set_option maxHeartbeats 4000000 in
set_option maxRecDepth 100000 in
theorem mX10_read {l : Launch} {D : va_G} {ad : Nat → Nat} {cy : Nat → ClassId} (hl : l.stackTraces = false) (hI : Inj ad)   {σ τ : Mem} {r : Int32} (h : fX10_read σ = some (r, τ)) : Co l D ad cy yX10_read cX10_read 2 (Option.some Jvm.ClassFile.FieldType.int) 7 227 0 [.ref (ad 124)] σ (zi r) τ := by
  refine co_of (av := [.inr 124]) hl hI (by decide +kernel) (Nat.le_of_ble_eq_true rfl) [some (.inr 124), none] rfl (fun V C => ?_)
  have C : Rl l D ad cy RX10 cX10_read 2 (Option.some Jvm.ClassFile.FieldType.int) 7 227 0 (zi r) τ V := C
  refine r_aload_n C dX10_read_0 rfl ?_
  refine bd_e h (fun v29 σ29 hf29 h => ?_)
  refine r_callVi C g_X10_takesText hc_10 o_124 ml_X10_331 (mX10_takesText hl hI  hf29) rfl rfl (by exact Nat.le_of_ble_eq_true rfl) ⟨Nat.le_of_ble_eq_true rfl, Nat.le_of_ble_eq_true rfl, Nat.le_of_ble_eq_true rfl⟩ dX10_read_1 ?_
  refine r_istore_n C (by decide) dX10_read_4 ?_
  refine r_aload_n C dX10_read_5 rfl ?_
  refine r_iconst C ic_0 dX10_read_6 ?_
  refine r_putI C ck_10 f_124_52 (by decide) fl_X10_307 rfl rfl rfl rfl rfl dX10_read_7 h (fun σ30 h => ?_)
  refine r_iload_n C dX10_read_10 rfl ?_
  refine r_if_ne C (tgt := 28) h (by decide) dX10_read_11 (fun hc h => ?_) (fun hc h => ?_)
  · refine r_aload_n C dX10_read_28 rfl ?_
    refine r_aload_n C dX10_read_29 rfl ?_
    refine r_getR C ck_10 f_124_26 (by decide) fl_X10_59 rfl dX10_read_30 ?_
    refine r_iconst C ic_0 dX10_read_33 ?_
    refine r_iconst C ic_1 dX10_read_34 ?_
    refine bv_e h (fun σ31 hf31 h => ?_)
    refine r_callVv C g_X10_handsAll hc_10 o_124 ml_X10_192 (mX10_handsAll hl hI i_137 hf31) rfl rfl (by exact Nat.le_of_ble_eq_true rfl) ⟨Nat.le_of_ble_eq_true rfl, Nat.le_of_ble_eq_true rfl, Nat.le_of_ble_eq_true rfl⟩ dX10_read_35 ?_
    refine r_aload_n C dX10_read_38 rfl ?_
    refine bd_e h (fun v32 σ32 hf32 h => ?_)
    refine r_callVi C g_X10_comesAll hc_10 o_124 ml_X10_334 (mX10_comesAll hl hI  hf32) rfl rfl (by exact Nat.le_of_ble_eq_true rfl) ⟨Nat.le_of_ble_eq_true rfl, Nat.le_of_ble_eq_true rfl, Nat.le_of_ble_eq_true rfl⟩ dX10_read_39 ?_
    refine r_if_ne C (tgt := 61) h (by decide) dX10_read_42 (fun hc h => ?_) (fun hc h => ?_)
    · refine r_aload_n C dX10_read_61 rfl ?_
      refine r_aload_n C dX10_read_62 rfl ?_
      refine r_getR C ck_10 f_124_27 (by decide) fl_X10_62 rfl dX10_read_63 ?_
      refine r_iconst C ic_0 dX10_read_66 ?_
      refine r_iconst C ic_1 dX10_read_67 ?_
      refine bv_e h (fun σ33 hf33 h => ?_)
      refine r_callVv C g_X10_handsAll hc_10 o_124 ml_X10_192 (mX10_handsAll hl hI i_138 hf33) rfl rfl (by exact Nat.le_of_ble_eq_true rfl) ⟨Nat.le_of_ble_eq_true rfl, Nat.le_of_ble_eq_true rfl, Nat.le_of_ble_eq_true rfl⟩ dX10_read_68 ?_
      refine r_aload_n C dX10_read_71 rfl ?_
      refine r_aload_n C dX10_read_72 rfl ?_
      refine r_getR C ck_10 f_124_26 (by decide) fl_X10_59 rfl dX10_read_73 ?_
      refine r_iconst C ic_0 dX10_read_76 ?_
      refine r_iconst C ic_0 dX10_read_77 ?_
      refine bv_e h (fun σ34 hf34 h => ?_)
      refine r_callVv C g_X10_handsAll hc_10 o_124 ml_X10_192 (mX10_handsAll hl hI i_137 hf34) rfl rfl (by exact Nat.le_of_ble_eq_true rfl) ⟨Nat.le_of_ble_eq_true rfl, Nat.le_of_ble_eq_true rfl, Nat.le_of_ble_eq_true rfl⟩ dX10_read_78 ?_
      refine r_aload_n C dX10_read_81 rfl ?_
      refine bv_e h (fun σ35 hf35 h => ?_)
      refine r_callVv C g_X10_remembers hc_10 o_124 ml_X10_207 (mX10_remembers hl hI  hf35) rfl rfl (by exact Nat.le_of_ble_eq_true rfl) ⟨Nat.le_of_ble_eq_true rfl, Nat.le_of_ble_eq_true rfl, Nat.le_of_ble_eq_true rfl⟩ dX10_read_82 ?_
      refine r_aload_n C dX10_read_85 rfl ?_
      refine r_aload_n C dX10_read_86 rfl ?_
      refine r_getR C ck_10 f_124_27 (by decide) fl_X10_62 rfl dX10_read_87 ?_
      refine r_iconst C ic_0 dX10_read_90 ?_
      refine r_iconst C ic_0 dX10_read_91 ?_
      refine bv_e h (fun σ36 hf36 h => ?_)
      refine r_callVv C g_X10_handsAll hc_10 o_124 ml_X10_192 (mX10_handsAll hl hI i_138 hf36) rfl rfl (by exact Nat.le_of_ble_eq_true rfl) ⟨Nat.le_of_ble_eq_true rfl, Nat.le_of_ble_eq_true rfl, Nat.le_of_ble_eq_true rfl⟩ dX10_read_92 ?_
      refine r_aload_n C dX10_read_95 rfl ?_
      refine r_iconst C ic_0 dX10_read_96 ?_
      refine r_putI C ck_10 f_124_0 (by decide) fl_X10_117 rfl rfl rfl rfl rfl dX10_read_97 h (fun σ37 h => ?_)
      refine r_aload_n C dX10_read_100 rfl ?_
      refine bv_e h (fun σ38 hf38 h => ?_)
      refine r_callVv C g_X10_begins hc_10 o_124 ml_X10_196 (mX10_begins hl hI  hf38) rfl rfl (by exact Nat.le_of_ble_eq_true rfl) ⟨Nat.le_of_ble_eq_true rfl, Nat.le_of_ble_eq_true rfl, Nat.le_of_ble_eq_true rfl⟩ dX10_read_101 ?_
      refine r_aload_n C dX10_read_104 rfl ?_
      refine r_getI C ck_10 f_124_54 (by decide) fl_X10_316 rfl dX10_read_105 ?_
      exact r_iret C rfl (Nat.le_of_ble_eq_true rfl) dX10_read_108 (re_i h)
    · refine r_aload_n C dX10_read_45 rfl ?_
      refine r_aload_n C dX10_read_46 rfl ?_
      refine r_getR C ck_10 f_124_26 (by decide) fl_X10_59 rfl dX10_read_47 ?_
      refine r_iconst C ic_0 dX10_read_50 ?_
      refine r_iconst C ic_0 dX10_read_51 ?_
      refine bv_e h (fun σ39 hf39 h => ?_)
      refine r_callVv C g_X10_handsAll hc_10 o_124 ml_X10_192 (mX10_handsAll hl hI i_137 hf39) rfl rfl (by exact Nat.le_of_ble_eq_true rfl) ⟨Nat.le_of_ble_eq_true rfl, Nat.le_of_ble_eq_true rfl, Nat.le_of_ble_eq_true rfl⟩ dX10_read_52 ?_
      refine r_aload_n C dX10_read_55 rfl ?_
      refine r_iconst C ic_2 dX10_read_56 ?_
      refine bd_e h (fun v40 σ40 hf40 h => ?_)
      refine r_callVi C g_X10_fails hc_10 o_124 ml_X10_203 (mX10_fails hl hI  hf40) rfl rfl (by exact Nat.le_of_ble_eq_true rfl) ⟨Nat.le_of_ble_eq_true rfl, Nat.le_of_ble_eq_true rfl, Nat.le_of_ble_eq_true rfl⟩ dX10_read_57 ?_
      exact r_iret C rfl (Nat.le_of_ble_eq_true rfl) dX10_read_60 (re_i h)
  · refine r_aload_n C dX10_read_14 rfl ?_
    refine r_aload_n C dX10_read_15 rfl ?_
    refine r_getI C ck_10 f_124_53 (by decide) fl_X10_310 rfl dX10_read_16 ?_
    refine r_putI C ck_10 f_124_55 (by decide) fl_X10_111 rfl rfl rfl rfl rfl dX10_read_19 h (fun σ41 h => ?_)
    refine r_aload_n C dX10_read_22 rfl ?_
    refine r_iconst C ic_1 dX10_read_23 ?_
    refine bd_e h (fun v42 σ42 hf42 h => ?_)
    refine r_callVi C g_X10_fails hc_10 o_124 ml_X10_203 (mX10_fails hl hI  hf42) rfl rfl (by exact Nat.le_of_ble_eq_true rfl) ⟨Nat.le_of_ble_eq_true rfl, Nat.le_of_ble_eq_true rfl, Nat.le_of_ble_eq_true rfl⟩ dX10_read_24 ?_
    exact r_iret C rfl (Nat.le_of_ble_eq_true rfl) dX10_read_27 (re_i h)
set_option maxHeartbeats 4000000 in
set_option maxRecDepth 100000 in
theorem mX10_errorPosition {l : Launch} {D : va_G} {ad : Nat → Nat} {cy : Nat → ClassId} (hl : l.stackTraces = false) (hI : Inj ad)   {σ τ : Mem} {r : Int32} (h : fX10_errorPosition σ = some (r, τ)) : Co l D ad cy yX10_errorPosition cX10_errorPosition 1 (Option.some Jvm.ClassFile.FieldType.int) 2 121 0 [.ref (ad 124)] σ (zi r) τ := by
  refine co_of (av := [.inr 124]) hl hI (by decide +kernel) (Nat.le_of_ble_eq_true rfl) [some (.inr 124)] rfl (fun V C => ?_)
  have C : Rl l D ad cy RX10 cX10_errorPosition 1 (Option.some Jvm.ClassFile.FieldType.int) 2 121 0 (zi r) τ V := C
  refine r_aload_n C dX10_errorPosition_0 rfl ?_
  refine r_getI C ck_10 f_124_55 (by decide) fl_X10_111 rfl dX10_errorPosition_1 ?_
  refine r_if_ge C (tgt := 13) h (by decide) dX10_errorPosition_4 (fun hc h => ?_) (fun hc h => ?_)
  · refine r_aload_n C dX10_errorPosition_13 rfl ?_
    refine r_iconst C ic_0 dX10_errorPosition_14 ?_
    refine r_putI C ck_10 f_124_0 (by decide) fl_X10_117 rfl rfl rfl rfl rfl dX10_errorPosition_15 h (fun σ5 h => ?_)
    refine r_aload_n C dX10_errorPosition_18 rfl ?_
    refine r_getI C ck_10 f_124_55 (by decide) fl_X10_111 rfl dX10_errorPosition_19 ?_
    exact r_iret C rfl (Nat.le_of_ble_eq_true rfl) dX10_errorPosition_22 (re_i h)
  · refine r_aload_n C dX10_errorPosition_7 rfl ?_
    refine r_iconst C ic_1 dX10_errorPosition_8 ?_
    refine bd_e h (fun v6 σ6 hf6 h => ?_)
    refine r_callVi C g_X10_fails hc_10 o_124 ml_X10_203 (mX10_fails hl hI  hf6) rfl rfl (by exact Nat.le_of_ble_eq_true rfl) ⟨Nat.le_of_ble_eq_true rfl, Nat.le_of_ble_eq_true rfl, Nat.le_of_ble_eq_true rfl⟩ dX10_errorPosition_9 ?_
    exact r_iret C rfl (Nat.le_of_ble_eq_true rfl) dX10_errorPosition_12 (re_i h)
set_option maxHeartbeats 4000000 in
set_option maxRecDepth 100000 in
theorem mX10_tells {l : Launch} {D : va_G} {ad : Nat → Nat} {cy : Nat → ClassId} (hl : l.stackTraces = false) (hI : Inj ad)   {σ τ : Mem} {a1 : Int32} (h : fX10_tells σ a1 = some τ) : Co l D ad cy yX10_tells cX10_tells 2 (Option.none : Option Jvm.ClassFile.FieldType) 1 100 0 [.ref (ad 124), .int a1] σ (zv) τ := by
  refine co_of (av := [.inr 124, .inl a1]) hl hI (by decide +kernel) (Nat.le_of_ble_eq_true rfl) [some (.inr 124), some (.inl a1)] rfl (fun V C => ?_)
  have C : Rl l D ad cy RX10 cX10_tells 2 (Option.none : Option Jvm.ClassFile.FieldType) 1 100 0 (zv) τ V := C
  refine r_aload_n C dX10_tells_0 rfl ?_
  refine r_getR C ck_10 f_124_56 (by decide) fl_X10_114 rfl dX10_tells_1 ?_
  refine r_aload_n C dX10_tells_4 rfl ?_
  refine r_getI C ck_10 f_124_57 (by decide) fl_X10_337 rfl dX10_tells_5 ?_
  refine r_iload_n C dX10_tells_8 rfl ?_
  obtain ⟨hi, h⟩ := ck_e h
  refine r_iast C i_154 hi dX10_tells_9 h (fun σ5 h => ?_)
  refine r_aload_n C dX10_tells_10 rfl ?_
  refine r_dup C rfl dX10_tells_11 ?_
  refine r_getI C ck_10 f_124_57 (by decide) fl_X10_337 rfl dX10_tells_12 ?_
  refine r_iconst C ic_1 dX10_tells_15 ?_
  refine r_iadd C dX10_tells_16 ?_
  refine r_putI C ck_10 f_124_57 (by decide) fl_X10_337 rfl rfl rfl rfl rfl dX10_tells_17 h (fun σ6 h => ?_)
  exact r_vret C rfl (Nat.le_of_ble_eq_true rfl) dX10_tells_20 (re_v h)
set_option maxHeartbeats 4000000 in
set_option maxRecDepth 100000 in
theorem mX10_findTold {l : Launch} {D : va_G} {ad : Nat → Nat} {cy : Nat → ClassId} (hl : l.stackTraces = false) (hI : Inj ad)   {σ τ : Mem} {a1 : Int32} (h : fX10_findTold σ a1 = some τ) : Co l D ad cy yX10_findTold cX10_findTold 3 (Option.none : Option Jvm.ClassFile.FieldType) 2 121 0 [.ref (ad 124), .int a1] σ (zv) τ := by
  refine co_of (av := [.inr 124, .inl a1]) hl hI (by decide +kernel) (Nat.le_of_ble_eq_true rfl) [some (.inr 124), some (.inl a1), none] rfl (fun V C => ?_)
  have C : Rl l D ad cy RX10 cX10_findTold 3 (Option.none : Option Jvm.ClassFile.FieldType) 2 121 0 (zv) τ V := C
  have L117 : ∀ (σ : Mem) (l1 l2 : Int32), fX10_findTold_L117   σ l1 l2 = some τ → V 0 σ 117 [some (.inr 124), some (.inl l1), some (.inl l2)] [] := by
    intro  σ l1 l2 h
    refine r_aload_n C dX10_findTold_117 rfl ?_
    refine r_bipush C bp_48 dX10_findTold_118 ?_
    refine r_iload_n C dX10_findTold_120 rfl ?_
    refine r_bipush C bp_10 dX10_findTold_121 ?_
    refine r_irem C dX10_findTold_123 (by decide) ?_
    refine r_iadd C dX10_findTold_124 ?_
    refine bv_e h (fun σ23 hf23 h => ?_)
    refine r_callVv C g_X10_tells hc_10 o_124 ml_X10_340 (mX10_tells hl hI  hf23) rfl rfl (by exact Nat.le_of_ble_eq_true rfl) ⟨Nat.le_of_ble_eq_true rfl, Nat.le_of_ble_eq_true rfl, Nat.le_of_ble_eq_true rfl⟩ dX10_findTold_125 ?_
    refine r_aload_n C dX10_findTold_128 rfl ?_
    refine r_bipush C bp_42 dX10_findTold_129 ?_
    refine bv_e h (fun σ24 hf24 h => ?_)
    refine r_callVv C g_X10_tells hc_10 o_124 ml_X10_340 (mX10_tells hl hI  hf24) rfl rfl (by exact Nat.le_of_ble_eq_true rfl) ⟨Nat.le_of_ble_eq_true rfl, Nat.le_of_ble_eq_true rfl, Nat.le_of_ble_eq_true rfl⟩ dX10_findTold_131 ?_
    refine r_aload_n C dX10_findTold_134 rfl ?_
    refine r_bipush C bp_48 dX10_findTold_135 ?_
    refine r_aload_n C dX10_findTold_137 rfl ?_
    refine r_getR C ck_10 f_124_6 (by decide) fl_X10_25 rfl dX10_findTold_138 ?_
    refine r_iload_n C dX10_findTold_141 rfl ?_
    obtain ⟨hi, h⟩ := ck_e h
    refine r_iald C i_130 hi dX10_findTold_142 ?_
    refine r_iadd C dX10_findTold_143 ?_
    refine bv_e h (fun σ25 hf25 h => ?_)
    refine r_callVv C g_X10_tells hc_10 o_124 ml_X10_340 (mX10_tells hl hI  hf25) rfl rfl (by exact Nat.le_of_ble_eq_true rfl) ⟨Nat.le_of_ble_eq_true rfl, Nat.le_of_ble_eq_true rfl, Nat.le_of_ble_eq_true rfl⟩ dX10_findTold_144 ?_
    refine r_aload_n C dX10_findTold_147 rfl ?_
    refine r_bipush C bp_59 dX10_findTold_148 ?_
    refine bv_e h (fun σ26 hf26 h => ?_)
    refine r_callVv C g_X10_tells hc_10 o_124 ml_X10_340 (mX10_tells hl hI  hf26) rfl rfl (by exact Nat.le_of_ble_eq_true rfl) ⟨Nat.le_of_ble_eq_true rfl, Nat.le_of_ble_eq_true rfl, Nat.le_of_ble_eq_true rfl⟩ dX10_findTold_150 ?_
    exact r_vret C rfl (Nat.le_of_ble_eq_true rfl) dX10_findTold_153 (re_v h)
  have L100 : ∀ (σ : Mem) (l1 l2 : Int32), fX10_findTold_L100   σ l1 l2 = some τ → V 0 σ 100 [some (.inr 124), some (.inl l1), some (.inl l2)] [] := by
    intro  σ l1 l2 h
    refine r_iload_n C dX10_findTold_100 rfl ?_
    refine r_bipush C bp_9 dX10_findTold_101 ?_
    refine r_ic_le C (tgt := 117) h (by decide) dX10_findTold_103 (fun hc h => ?_) (fun hc h => ?_)
    · exact L117 _ _ _ h
    · refine r_aload_n C dX10_findTold_106 rfl ?_
      refine r_bipush C bp_48 dX10_findTold_107 ?_
      refine r_iload_n C dX10_findTold_109 rfl ?_
      refine r_bipush C bp_10 dX10_findTold_110 ?_
      refine r_idiv C dX10_findTold_112 (by decide) ?_
      refine r_iadd C dX10_findTold_113 ?_
      refine bv_e h (fun σ27 hf27 h => ?_)
      refine r_callVv C g_X10_tells hc_10 o_124 ml_X10_340 (mX10_tells hl hI  hf27) rfl rfl (by exact Nat.le_of_ble_eq_true rfl) ⟨Nat.le_of_ble_eq_true rfl, Nat.le_of_ble_eq_true rfl, Nat.le_of_ble_eq_true rfl⟩ dX10_findTold_114 ?_
      exact L117 _ _ _ h
  have L84 : ∀ (σ : Mem) (l1 s0 : Int32), fX10_findTold_L84   σ l1 s0 = some τ → V 0 σ 84 [some (.inr 124), some (.inl l1), none] [.int s0] := by
    intro  σ l1 s0 h
    refine r_istore_n C (by decide) dX10_findTold_84 ?_
    refine r_aload_n C dX10_findTold_85 rfl ?_
    refine r_getR C ck_10 f_124_5 (by decide) fl_X10_22 rfl dX10_findTold_86 ?_
    refine r_iload_n C dX10_findTold_89 rfl ?_
    obtain ⟨hi, h⟩ := ck_e h
    refine r_iald C i_129 hi dX10_findTold_90 ?_
    refine r_if_ge C (tgt := 100) h (by decide) dX10_findTold_91 (fun hc h => ?_) (fun hc h => ?_)
    · exact L100 _ _ _ h
    · refine r_aload_n C dX10_findTold_94 rfl ?_
      refine r_bipush C bp_45 dX10_findTold_95 ?_
      refine bv_e h (fun σ28 hf28 h => ?_)
      refine r_callVv C g_X10_tells hc_10 o_124 ml_X10_340 (mX10_tells hl hI  hf28) rfl rfl (by exact Nat.le_of_ble_eq_true rfl) ⟨Nat.le_of_ble_eq_true rfl, Nat.le_of_ble_eq_true rfl, Nat.le_of_ble_eq_true rfl⟩ dX10_findTold_97 ?_
      exact L100 _ _ _ h
  have L20 : ∀ (n : Nat) (σ : Mem) (l1 l2 : Int32), fX10_findTold_L20  n σ l1 l2 = some τ → V 0 σ 20 [some (.inr 124), some (.inl l1), some (.inl l2)] [] := by
    intro n20
    induction n20 with
    | zero => intro σ l1 l2 h; exact no_e h
    | succ n20 ih20 =>
      have L47 : ∀ (σ : Mem) (l1 l2 : Int32), fX10_findTold_L47 (fX10_findTold_L20  n20)  σ l1 l2 = some τ → V 0 σ 47 [some (.inr 124), some (.inl l1), some (.inl l2)] [] := by
        intro  σ l1 l2 h
        refine r_iinc C ic_1 (by decide) dX10_findTold_47 rfl ?_
        refine r_goto C (tgt := 20) (by decide) dX10_findTold_50 ?_
        exact ih20 _ _ _ h
      intro σ l1 l2 h
      have h : fX10_findTold_B20  (fX10_findTold_L20  n20) σ l1 l2 = some τ := h
      refine r_iload_n C dX10_findTold_20 rfl ?_
      refine r_bipush C bp_10 dX10_findTold_21 ?_
      refine r_ic_ge C (tgt := 53) h (by decide) dX10_findTold_23 (fun hc h => ?_) (fun hc h => ?_)
      · refine r_aload_n C dX10_findTold_53 rfl ?_
        refine r_bipush C bp_58 dX10_findTold_54 ?_
        refine bv_e h (fun σ29 hf29 h => ?_)
        refine r_callVv C g_X10_tells hc_10 o_124 ml_X10_340 (mX10_tells hl hI  hf29) rfl rfl (by exact Nat.le_of_ble_eq_true rfl) ⟨Nat.le_of_ble_eq_true rfl, Nat.le_of_ble_eq_true rfl, Nat.le_of_ble_eq_true rfl⟩ dX10_findTold_56 ?_
        refine r_aload_n C dX10_findTold_59 rfl ?_
        refine r_getR C ck_10 f_124_5 (by decide) fl_X10_22 rfl dX10_findTold_60 ?_
        refine r_iload_n C dX10_findTold_63 rfl ?_
        obtain ⟨hi, h⟩ := ck_e h
        refine r_iald C i_129 hi dX10_findTold_64 ?_
        refine r_if_ge C (tgt := 78) h (by decide) dX10_findTold_65 (fun hc h => ?_) (fun hc h => ?_)
        · refine r_aload_n C dX10_findTold_78 rfl ?_
          refine r_getR C ck_10 f_124_5 (by decide) fl_X10_22 rfl dX10_findTold_79 ?_
          refine r_iload_n C dX10_findTold_82 rfl ?_
          obtain ⟨hi, h⟩ := ck_e h
          refine r_iald C i_129 hi dX10_findTold_83 ?_
          refine r_weak C [some (.inr 124), some (.inl l1), none] ⟨rfl, ⟨rfl, trivial⟩⟩ ?_
          exact L84 _ _ _ h
        · refine r_aload_n C dX10_findTold_68 rfl ?_
          refine r_getR C ck_10 f_124_5 (by decide) fl_X10_22 rfl dX10_findTold_69 ?_
          refine r_iload_n C dX10_findTold_72 rfl ?_
          obtain ⟨hi, h⟩ := ck_e h
          refine r_iald C i_129 hi dX10_findTold_73 ?_
          refine r_ineg C dX10_findTold_74 ?_
          refine r_goto C (tgt := 84) (by decide) dX10_findTold_75 ?_
          refine r_weak C [some (.inr 124), some (.inl l1), none] ⟨rfl, ⟨rfl, trivial⟩⟩ ?_
          exact L84 _ _ _ h
      · refine r_aload_n C dX10_findTold_26 rfl ?_
        refine r_getR C ck_10 f_124_4 (by decide) fl_X10_19 rfl dX10_findTold_27 ?_
        refine r_iload_n C dX10_findTold_30 rfl ?_
        obtain ⟨hi, h⟩ := ck_e h
        refine r_iald C i_128 hi dX10_findTold_31 ?_
        refine r_iload_n C dX10_findTold_32 rfl ?_
        refine bd_e h (fun v30 σ30 hf30 h => ?_)
        refine r_callSi C g_X10_has ml_X10_126 (mX10_has hl hI  hf30) rfl rfl (by exact Nat.le_of_ble_eq_true rfl) ⟨Nat.le_of_ble_eq_true rfl, Nat.le_of_ble_eq_true rfl, Nat.le_of_ble_eq_true rfl⟩ dX10_findTold_33 ?_
        refine r_if_eq C (tgt := 47) h (by decide) dX10_findTold_36 (fun hc h => ?_) (fun hc h => ?_)
        · exact L47 _ _ _ h
        · refine r_aload_n C dX10_findTold_39 rfl ?_
          refine r_bipush C bp_48 dX10_findTold_40 ?_
          refine r_iload_n C dX10_findTold_42 rfl ?_
          refine r_iadd C dX10_findTold_43 ?_
          refine bv_e h (fun σ31 hf31 h => ?_)
          refine r_callVv C g_X10_tells hc_10 o_124 ml_X10_340 (mX10_tells hl hI  hf31) rfl rfl (by exact Nat.le_of_ble_eq_true rfl) ⟨Nat.le_of_ble_eq_true rfl, Nat.le_of_ble_eq_true rfl, Nat.le_of_ble_eq_true rfl⟩ dX10_findTold_44 ?_
          exact L47 _ _ _ h
  refine r_aload_n C dX10_findTold_0 rfl ?_
  refine r_iconst C ic_0 dX10_findTold_1 ?_
  refine r_putI C ck_10 f_124_57 (by decide) fl_X10_337 rfl rfl rfl rfl rfl dX10_findTold_2 h (fun σ32 h => ?_)
  refine r_aload_n C dX10_findTold_5 rfl ?_
  refine r_bipush C bp_97 dX10_findTold_6 ?_
  refine r_aload_n C dX10_findTold_8 rfl ?_
  refine r_getR C ck_10 f_124_3 (by decide) fl_X10_16 rfl dX10_findTold_9 ?_
  refine r_iload_n C dX10_findTold_12 rfl ?_
  obtain ⟨hi, h⟩ := ck_e h
  refine r_iald C i_127 hi dX10_findTold_13 ?_
  refine r_iadd C dX10_findTold_14 ?_
  refine bv_e h (fun σ33 hf33 h => ?_)
  refine r_callVv C g_X10_tells hc_10 o_124 ml_X10_340 (mX10_tells hl hI  hf33) rfl rfl (by exact Nat.le_of_ble_eq_true rfl) ⟨Nat.le_of_ble_eq_true rfl, Nat.le_of_ble_eq_true rfl, Nat.le_of_ble_eq_true rfl⟩ dX10_findTold_15 ?_
  refine r_iconst C ic_0 dX10_findTold_18 ?_
  refine r_istore_n C (by decide) dX10_findTold_19 ?_
  exact L20 FU _ _ _ h
set_option maxHeartbeats 4000000 in
set_option maxRecDepth 100000 in
theorem mX10_describe {l : Launch} {D : va_G} {ad : Nat → Nat} {cy : Nat → ClassId} (hl : l.stackTraces = false) (hI : Inj ad)   {σ τ : Mem} {a1 a2 : Int32} {r : Int32} (h : fX10_describe σ a1 a2 = some (r, τ)) : Co l D ad cy yX10_describe cX10_describe 3 (Option.some Jvm.ClassFile.FieldType.int) 3 143 0 [.ref (ad 124), .int a1, .int a2] σ (zi r) τ := by
  refine co_of (av := [.inr 124, .inl a1, .inl a2]) hl hI (by decide +kernel) (Nat.le_of_ble_eq_true rfl) [some (.inr 124), some (.inl a1), some (.inl a2)] rfl (fun V C => ?_)
  have C : Rl l D ad cy RX10 cX10_describe 3 (Option.some Jvm.ClassFile.FieldType.int) 3 143 0 (zi r) τ V := C
  refine r_aload_n C dX10_describe_0 rfl ?_
  refine r_iload_n C dX10_describe_1 rfl ?_
  refine bd_e h (fun v13 σ13 hf13 h => ?_)
  refine r_callVi C g_X10_isConstraint hc_10 o_124 ml_X10_228 (mX10_isConstraint hl hI  hf13) rfl rfl (by exact Nat.le_of_ble_eq_true rfl) ⟨Nat.le_of_ble_eq_true rfl, Nat.le_of_ble_eq_true rfl, Nat.le_of_ble_eq_true rfl⟩ dX10_describe_2 ?_
  refine r_if_ne C (tgt := 14) h (by decide) dX10_describe_5 (fun hc h => ?_) (fun hc h => ?_)
  · refine r_aload_n C dX10_describe_14 rfl ?_
    refine r_iload_n C dX10_describe_15 rfl ?_
    refine bv_e h (fun σ14 hf14 h => ?_)
    refine r_callVv C g_X10_findTold hc_10 o_124 ml_X10_343 (mX10_findTold hl hI  hf14) rfl rfl (by exact Nat.le_of_ble_eq_true rfl) ⟨Nat.le_of_ble_eq_true rfl, Nat.le_of_ble_eq_true rfl, Nat.le_of_ble_eq_true rfl⟩ dX10_describe_16 ?_
    refine r_iload_n C dX10_describe_19 rfl ?_
    refine r_iconst C ic_m1 dX10_describe_20 ?_
    refine r_aload_n C dX10_describe_21 rfl ?_
    refine r_getI C ck_10 f_124_57 (by decide) fl_X10_337 rfl dX10_describe_22 ?_
    refine r_iconst C ic_1 dX10_describe_25 ?_
    refine r_isub C dX10_describe_26 ?_
    refine bd_e h (fun v15 σ15 hf15 h => ?_)
    refine r_callSi C g_X10_isBetween ml_X10_199 (mX10_isBetween hl hI  hf15) rfl rfl (by exact Nat.le_of_ble_eq_true rfl) ⟨Nat.le_of_ble_eq_true rfl, Nat.le_of_ble_eq_true rfl, Nat.le_of_ble_eq_true rfl⟩ dX10_describe_27 ?_
    refine r_if_ne C (tgt := 39) h (by decide) dX10_describe_30 (fun hc h => ?_) (fun hc h => ?_)
    · refine r_aload_n C dX10_describe_39 rfl ?_
      refine r_iconst C ic_0 dX10_describe_40 ?_
      refine r_putI C ck_10 f_124_0 (by decide) fl_X10_117 rfl rfl rfl rfl rfl dX10_describe_41 h (fun σ16 h => ?_)
      refine r_iload_n C dX10_describe_44 rfl ?_
      refine r_if_ge C (tgt := 55) h (by decide) dX10_describe_45 (fun hc h => ?_) (fun hc h => ?_)
      · refine r_aload_n C dX10_describe_55 rfl ?_
        refine r_getR C ck_10 f_124_56 (by decide) fl_X10_114 rfl dX10_describe_56 ?_
        refine r_iload_n C dX10_describe_59 rfl ?_
        obtain ⟨hi, h⟩ := ck_e h
        refine r_iald C i_154 hi dX10_describe_60 ?_
        exact r_iret C rfl (Nat.le_of_ble_eq_true rfl) dX10_describe_61 (re_i h)
      · refine r_aload_n C dX10_describe_48 rfl ?_
        refine r_getI C ck_10 f_124_57 (by decide) fl_X10_337 rfl dX10_describe_49 ?_
        refine r_goto C (tgt := 61) (by decide) dX10_describe_52 ?_
        exact r_iret C rfl (Nat.le_of_ble_eq_true rfl) dX10_describe_61 (re_i h)
    · refine r_aload_n C dX10_describe_33 rfl ?_
      refine r_iconst C ic_2 dX10_describe_34 ?_
      refine bd_e h (fun v17 σ17 hf17 h => ?_)
      refine r_callVi C g_X10_fails hc_10 o_124 ml_X10_203 (mX10_fails hl hI  hf17) rfl rfl (by exact Nat.le_of_ble_eq_true rfl) ⟨Nat.le_of_ble_eq_true rfl, Nat.le_of_ble_eq_true rfl, Nat.le_of_ble_eq_true rfl⟩ dX10_describe_35 ?_
      exact r_iret C rfl (Nat.le_of_ble_eq_true rfl) dX10_describe_38 (re_i h)
  · refine r_aload_n C dX10_describe_8 rfl ?_
    refine r_iconst C ic_1 dX10_describe_9 ?_
    refine bd_e h (fun v18 σ18 hf18 h => ?_)
    refine r_callVi C g_X10_fails hc_10 o_124 ml_X10_203 (mX10_fails hl hI  hf18) rfl rfl (by exact Nat.le_of_ble_eq_true rfl) ⟨Nat.le_of_ble_eq_true rfl, Nat.le_of_ble_eq_true rfl, Nat.le_of_ble_eq_true rfl⟩ dX10_describe_10 ?_
    exact r_iret C rfl (Nat.le_of_ble_eq_true rfl) dX10_describe_13 (re_i h)
set_option maxHeartbeats 4000000 in
set_option maxRecDepth 100000 in
theorem mX10_undo {l : Launch} {D : va_G} {ad : Nat → Nat} {cy : Nat → ClassId} (hl : l.stackTraces = false) (hI : Inj ad)   {σ τ : Mem} {r : Int32} (h : fX10_undo σ = some (r, τ)) : Co l D ad cy yX10_undo cX10_undo 1 (Option.some Jvm.ClassFile.FieldType.int) 6 213 0 [.ref (ad 124)] σ (zi r) τ := by
  refine co_of (av := [.inr 124]) hl hI (by decide +kernel) (Nat.le_of_ble_eq_true rfl) [some (.inr 124)] rfl (fun V C => ?_)
  have C : Rl l D ad cy RX10 cX10_undo 1 (Option.some Jvm.ClassFile.FieldType.int) 6 213 0 (zi r) τ V := C
  refine r_aload_n C dX10_undo_0 rfl ?_
  refine r_getI C ck_10 f_124_28 (by decide) fl_X10_189 rfl dX10_undo_1 ?_
  refine r_if_ne C (tgt := 13) h (by decide) dX10_undo_4 (fun hc h => ?_) (fun hc h => ?_)
  · refine r_aload_n C dX10_undo_13 rfl ?_
    refine r_iconst C ic_0 dX10_undo_14 ?_
    refine r_putI C ck_10 f_124_0 (by decide) fl_X10_117 rfl rfl rfl rfl rfl dX10_undo_15 h (fun σ11 h => ?_)
    refine r_aload_n C dX10_undo_18 rfl ?_
    refine r_dup C rfl dX10_undo_19 ?_
    refine r_getI C ck_10 f_124_28 (by decide) fl_X10_189 rfl dX10_undo_20 ?_
    refine r_iconst C ic_1 dX10_undo_23 ?_
    refine r_isub C dX10_undo_24 ?_
    refine r_putI C ck_10 f_124_28 (by decide) fl_X10_189 rfl rfl rfl rfl rfl dX10_undo_25 h (fun σ12 h => ?_)
    refine r_aload_n C dX10_undo_28 rfl ?_
    refine r_aload_n C dX10_undo_29 rfl ?_
    refine r_getR C ck_10 f_124_24 (by decide) fl_X10_53 rfl dX10_undo_30 ?_
    refine r_bipush C bp_104 dX10_undo_33 ?_
    refine r_aload_n C dX10_undo_35 rfl ?_
    refine r_getI C ck_10 f_124_28 (by decide) fl_X10_189 rfl dX10_undo_36 ?_
    refine r_imul C dX10_undo_39 ?_
    refine r_iconst C ic_0 dX10_undo_40 ?_
    refine bv_e h (fun σ13 hf13 h => ?_)
    refine r_callVv C g_X10_handsAll hc_10 o_124 ml_X10_192 (mX10_handsAll hl hI i_135 hf13) rfl rfl (by exact Nat.le_of_ble_eq_true rfl) ⟨Nat.le_of_ble_eq_true rfl, Nat.le_of_ble_eq_true rfl, Nat.le_of_ble_eq_true rfl⟩ dX10_undo_41 ?_
    refine r_aload_n C dX10_undo_44 rfl ?_
    refine bv_e h (fun σ14 hf14 h => ?_)
    refine r_callVv C g_X10_begins hc_10 o_124 ml_X10_196 (mX10_begins hl hI  hf14) rfl rfl (by exact Nat.le_of_ble_eq_true rfl) ⟨Nat.le_of_ble_eq_true rfl, Nat.le_of_ble_eq_true rfl, Nat.le_of_ble_eq_true rfl⟩ dX10_undo_45 ?_
    refine r_aload_n C dX10_undo_48 rfl ?_
    refine r_getI C ck_10 f_124_28 (by decide) fl_X10_189 rfl dX10_undo_49 ?_
    exact r_iret C rfl (Nat.le_of_ble_eq_true rfl) dX10_undo_52 (re_i h)
  · refine r_aload_n C dX10_undo_7 rfl ?_
    refine r_iconst C ic_1 dX10_undo_8 ?_
    refine bd_e h (fun v15 σ15 hf15 h => ?_)
    refine r_callVi C g_X10_fails hc_10 o_124 ml_X10_203 (mX10_fails hl hI  hf15) rfl rfl (by exact Nat.le_of_ble_eq_true rfl) ⟨Nat.le_of_ble_eq_true rfl, Nat.le_of_ble_eq_true rfl, Nat.le_of_ble_eq_true rfl⟩ dX10_undo_9 ?_
    exact r_iret C rfl (Nat.le_of_ble_eq_true rfl) dX10_undo_12 (re_i h)
set_option maxHeartbeats 4000000 in
set_option maxRecDepth 100000 in
theorem mX10_save {l : Launch} {D : va_G} {ad : Nat → Nat} {cy : Nat → ClassId} (hl : l.stackTraces = false) (hI : Inj ad)   {σ τ : Mem} {r : Int32} (h : fX10_save σ = some (r, τ)) : Co l D ad cy yX10_save cX10_save 1 (Option.some Jvm.ClassFile.FieldType.int) 3 146 0 [.ref (ad 124)] σ (zi r) τ := by
  refine co_of (av := [.inr 124]) hl hI (by decide +kernel) (Nat.le_of_ble_eq_true rfl) [some (.inr 124)] rfl (fun V C => ?_)
  have C : Rl l D ad cy RX10 cX10_save 1 (Option.some Jvm.ClassFile.FieldType.int) 3 146 0 (zi r) τ V := C
  refine r_aload_n C dX10_save_0 rfl ?_
  refine r_iconst C ic_0 dX10_save_1 ?_
  refine r_putI C ck_10 f_124_0 (by decide) fl_X10_117 rfl rfl rfl rfl rfl dX10_save_2 h (fun σ7 h => ?_)
  refine r_aload_n C dX10_save_5 rfl ?_
  refine r_iconst C ic_1 dX10_save_6 ?_
  refine r_putI C ck_10 f_124_30 (by decide) fl_X10_346 rfl rfl rfl rfl rfl dX10_save_7 h (fun σ8 h => ?_)
  refine r_aload_n C dX10_save_10 rfl ?_
  refine r_aload_n C dX10_save_11 rfl ?_
  refine r_getR C ck_10 f_124_25 (by decide) fl_X10_56 rfl dX10_save_12 ?_
  refine r_iconst C ic_0 dX10_save_15 ?_
  refine r_iconst C ic_1 dX10_save_16 ?_
  refine bv_e h (fun σ9 hf9 h => ?_)
  refine r_callVv C g_X10_handsAll hc_10 o_124 ml_X10_192 (mX10_handsAll hl hI i_136 hf9) rfl rfl (by exact Nat.le_of_ble_eq_true rfl) ⟨Nat.le_of_ble_eq_true rfl, Nat.le_of_ble_eq_true rfl, Nat.le_of_ble_eq_true rfl⟩ dX10_save_17 ?_
  refine r_aload_n C dX10_save_20 rfl ?_
  refine r_getI C ck_10 f_124_7 (by decide) fl_X10_120 rfl dX10_save_21 ?_
  exact r_iret C rfl (Nat.le_of_ble_eq_true rfl) dX10_save_24 (re_i h)
set_option maxHeartbeats 4000000 in
set_option maxRecDepth 100000 in
theorem mX10_restore {l : Launch} {D : va_G} {ad : Nat → Nat} {cy : Nat → ClassId} (hl : l.stackTraces = false) (hI : Inj ad)   {σ τ : Mem} {r : Int32} (h : fX10_restore σ = some (r, τ)) : Co l D ad cy yX10_restore cX10_restore 1 (Option.some Jvm.ClassFile.FieldType.int) 6 213 0 [.ref (ad 124)] σ (zi r) τ := by
  refine co_of (av := [.inr 124]) hl hI (by decide +kernel) (Nat.le_of_ble_eq_true rfl) [some (.inr 124)] rfl (fun V C => ?_)
  have C : Rl l D ad cy RX10 cX10_restore 1 (Option.some Jvm.ClassFile.FieldType.int) 6 213 0 (zi r) τ V := C
  refine r_aload_n C dX10_restore_0 rfl ?_
  refine r_getI C ck_10 f_124_30 (by decide) fl_X10_346 rfl dX10_restore_1 ?_
  refine r_if_ne C (tgt := 13) h (by decide) dX10_restore_4 (fun hc h => ?_) (fun hc h => ?_)
  · refine r_aload_n C dX10_restore_13 rfl ?_
    refine r_iconst C ic_0 dX10_restore_14 ?_
    refine r_putI C ck_10 f_124_0 (by decide) fl_X10_117 rfl rfl rfl rfl rfl dX10_restore_15 h (fun σ11 h => ?_)
    refine r_aload_n C dX10_restore_18 rfl ?_
    refine r_aload_n C dX10_restore_19 rfl ?_
    refine r_getR C ck_10 f_124_25 (by decide) fl_X10_56 rfl dX10_restore_20 ?_
    refine r_iconst C ic_0 dX10_restore_23 ?_
    refine r_iconst C ic_0 dX10_restore_24 ?_
    refine bv_e h (fun σ12 hf12 h => ?_)
    refine r_callVv C g_X10_handsAll hc_10 o_124 ml_X10_192 (mX10_handsAll hl hI i_136 hf12) rfl rfl (by exact Nat.le_of_ble_eq_true rfl) ⟨Nat.le_of_ble_eq_true rfl, Nat.le_of_ble_eq_true rfl, Nat.le_of_ble_eq_true rfl⟩ dX10_restore_25 ?_
    refine r_aload_n C dX10_restore_28 rfl ?_
    refine r_iconst C ic_0 dX10_restore_29 ?_
    refine r_putI C ck_10 f_124_28 (by decide) fl_X10_189 rfl rfl rfl rfl rfl dX10_restore_30 h (fun σ13 h => ?_)
    refine r_aload_n C dX10_restore_33 rfl ?_
    refine bv_e h (fun σ14 hf14 h => ?_)
    refine r_callVv C g_X10_begins hc_10 o_124 ml_X10_196 (mX10_begins hl hI  hf14) rfl rfl (by exact Nat.le_of_ble_eq_true rfl) ⟨Nat.le_of_ble_eq_true rfl, Nat.le_of_ble_eq_true rfl, Nat.le_of_ble_eq_true rfl⟩ dX10_restore_34 ?_
    refine r_aload_n C dX10_restore_37 rfl ?_
    refine r_getI C ck_10 f_124_7 (by decide) fl_X10_120 rfl dX10_restore_38 ?_
    exact r_iret C rfl (Nat.le_of_ble_eq_true rfl) dX10_restore_41 (re_i h)
  · refine r_aload_n C dX10_restore_7 rfl ?_
    refine r_iconst C ic_1 dX10_restore_8 ?_
    refine bd_e h (fun v15 σ15 hf15 h => ?_)
    refine r_callVi C g_X10_fails hc_10 o_124 ml_X10_203 (mX10_fails hl hI  hf15) rfl rfl (by exact Nat.le_of_ble_eq_true rfl) ⟨Nat.le_of_ble_eq_true rfl, Nat.le_of_ble_eq_true rfl, Nat.le_of_ble_eq_true rfl⟩ dX10_restore_9 ?_
    exact r_iret C rfl (Nat.le_of_ble_eq_true rfl) dX10_restore_12 (re_i h)
