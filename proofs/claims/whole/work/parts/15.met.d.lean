set_option maxHeartbeats 4000000 in
set_option maxRecDepth 100000 in
theorem mX9_beginSearch {l : Launch} {D : va_G} {ad : Nat → Nat} {cy : Nat → ClassId} (hl : l.stackTraces = false) (hI : Inj ad)   {σ τ : Mem} (h : fX9_beginSearch σ = some τ) : Co l D ad cy yX9_beginSearch cX9_beginSearch 1 (Option.none : Option Jvm.ClassFile.FieldType) 6 213 0 [.ref (ad 0)] σ (zv) τ := by
  refine co_of (av := [.inr 0]) hl hI (by decide +kernel) (Nat.le_of_ble_eq_true rfl) [some (.inr 0)] rfl (fun V C => ?_)
  have C : Rl l D ad cy RX9 cX9_beginSearch 1 (Option.none : Option Jvm.ClassFile.FieldType) 6 213 0 (zv) τ V := C
  refine r_aload_n C dX9_beginSearch_0 rfl ?_
  refine r_getR C ck_9 f_0_4 (by decide) fl_X9_36 rfl dX9_beginSearch_1 ?_
  refine r_aload_n C dX9_beginSearch_4 rfl ?_
  refine r_getR C ck_9 f_0_0 (by decide) fl_X9_12 rfl dX9_beginSearch_5 ?_
  refine bv_e h (fun σ5 hf5 h => ?_)
  refine r_callVv C g_X8_begin hc_8 o_84 ml_X9_343 (mX8_begin hl hI  hf5) rfl rfl (by exact Nat.le_of_ble_eq_true rfl) ⟨Nat.le_of_ble_eq_true rfl, Nat.le_of_ble_eq_true rfl, Nat.le_of_ble_eq_true rfl⟩ dX9_beginSearch_8 ?_
  refine r_aload_n C dX9_beginSearch_11 rfl ?_
  refine r_getR C ck_9 f_0_5 (by decide) fl_X9_43 rfl dX9_beginSearch_12 ?_
  refine r_iconst C ic_0 dX9_beginSearch_15 ?_
  refine r_putI C ck_7 f_113_2 (by decide) fl_X9_346 rfl rfl rfl rfl rfl dX9_beginSearch_16 h (fun σ6 h => ?_)
  exact r_vret C rfl (Nat.le_of_ble_eq_true rfl) dX9_beginSearch_19 (re_v h)
set_option maxHeartbeats 4000000 in
set_option maxRecDepth 100000 in
theorem mX9_clear {l : Launch} {D : va_G} {ad : Nat → Nat} {cy : Nat → ClassId} (hl : l.stackTraces = false) (hI : Inj ad)   {σ τ : Mem} {r : Int32} (h : fX9_clear σ = some (r, τ)) : Co l D ad cy yX9_clear cX9_clear 2 (Option.some Jvm.ClassFile.FieldType.int) 7 233 0 [.ref (ad 0)] σ (zi r) τ := by
  refine co_of (av := [.inr 0]) hl hI (by decide +kernel) (Nat.le_of_ble_eq_true rfl) [some (.inr 0), none] rfl (fun V C => ?_)
  have C : Rl l D ad cy RX9 cX9_clear 2 (Option.some Jvm.ClassFile.FieldType.int) 7 233 0 (zi r) τ V := C
  refine r_aload_n C dX9_clear_0 rfl ?_
  refine r_getR C ck_9 f_0_0 (by decide) fl_X9_12 rfl dX9_clear_1 ?_
  refine r_getI C ck_4 f_1_7 (by decide) fl_X9_69 rfl dX9_clear_4 ?_
  refine r_istore_n C (by decide) dX9_clear_7 ?_
  refine r_aload_n C dX9_clear_8 rfl ?_
  refine r_getR C ck_9 f_0_0 (by decide) fl_X9_12 rfl dX9_clear_9 ?_
  refine bv_e h (fun σ9 hf9 h => ?_)
  refine r_callVv C g_X4_removeAll hc_4 o_1 ml_X9_72 (mX4_removeAll hl hI  hf9) rfl rfl (by exact Nat.le_of_ble_eq_true rfl) ⟨Nat.le_of_ble_eq_true rfl, Nat.le_of_ble_eq_true rfl, Nat.le_of_ble_eq_true rfl⟩ dX9_clear_12 ?_
  refine r_aload_n C dX9_clear_15 rfl ?_
  refine r_getR C ck_9 f_0_2 (by decide) fl_X9_22 rfl dX9_clear_16 ?_
  refine bv_e h (fun σ10 hf10 h => ?_)
  refine r_callVv C g_X1_forget hc_1 o_81 ml_X9_75 (mX1_forget hl hI  hf10) rfl rfl (by exact Nat.le_of_ble_eq_true rfl) ⟨Nat.le_of_ble_eq_true rfl, Nat.le_of_ble_eq_true rfl, Nat.le_of_ble_eq_true rfl⟩ dX9_clear_19 ?_
  refine r_aload_n C dX9_clear_22 rfl ?_
  refine r_getR C ck_9 f_0_3 (by decide) fl_X9_29 rfl dX9_clear_23 ?_
  refine bv_e h (fun σ11 hf11 h => ?_)
  refine r_callVv C g_X5_reset hc_5 o_83 ml_X9_78 (mX5_reset hl hI  hf11) rfl rfl (by exact Nat.le_of_ble_eq_true rfl) ⟨Nat.le_of_ble_eq_true rfl, Nat.le_of_ble_eq_true rfl, Nat.le_of_ble_eq_true rfl⟩ dX9_clear_26 ?_
  refine r_aload_n C dX9_clear_29 rfl ?_
  refine bv_e h (fun σ12 hf12 h => ?_)
  refine r_callVv C g_X9_beginSearch hc_9 o_0 ml_X9_81 (mX9_beginSearch hl hI  hf12) rfl rfl (by exact Nat.le_of_ble_eq_true rfl) ⟨Nat.le_of_ble_eq_true rfl, Nat.le_of_ble_eq_true rfl, Nat.le_of_ble_eq_true rfl⟩ dX9_clear_30 ?_
  refine r_iload_n C dX9_clear_33 rfl ?_
  exact r_iret C rfl (Nat.le_of_ble_eq_true rfl) dX9_clear_34 (re_i h)
set_option maxHeartbeats 4000000 in
set_option maxRecDepth 100000 in
theorem mX9_checkRange {l : Launch} {D : va_G} {ad : Nat → Nat} {cy : Nat → ClassId} (hl : l.stackTraces = false) (hI : Inj ad)   {σ τ : Mem} {a0 a1 a2 : Int32} {r : Unit ⊕ String} (h : fX9_checkRange σ a0 a1 a2 = some (r, τ)) : Co l D ad cy yX9_checkRange cX9_checkRange 3 (Option.none : Option Jvm.ClassFile.FieldType) 6 100 1 [.int a0, .int a1, .int a2] σ (zu r) τ := by
  refine co_of (av := [.inl a0, .inl a1, .inl a2]) hl hI (by decide +kernel) (Nat.le_of_ble_eq_true rfl) [some (.inl a0), some (.inl a1), some (.inl a2)] rfl (fun V C => ?_)
  have C : Rl l D ad cy RX9 cX9_checkRange 3 (Option.none : Option Jvm.ClassFile.FieldType) 6 100 1 (zu r) τ V := C
  have L10 : ∀ (σ : Mem), fX9_checkRange_L10   σ  = some (r, τ) → V 0 σ 10 [none, none, none] [] := by
    intro  σ  h
    exact r_throw C th_X9_128 dX9_checkRange_10 dX9_checkRange_13 dX9_checkRange_14 dX9_checkRange_17 ⟨by decide, Nat.le_of_ble_eq_true rfl, by decide⟩ (re_ue h)
  refine r_iload_n C dX9_checkRange_0 rfl ?_
  refine r_iload_n C dX9_checkRange_1 rfl ?_
  refine r_ic_lt C (tgt := 10) h (by decide) dX9_checkRange_2 (fun hc h => ?_) (fun hc h => ?_)
  · refine r_weak C [none, none, none] trivial ?_
    exact L10 _ h
  · refine r_iload_n C dX9_checkRange_5 rfl ?_
    refine r_iload_n C dX9_checkRange_6 rfl ?_
    refine r_ic_le C (tgt := 18) h (by decide) dX9_checkRange_7 (fun hc h => ?_) (fun hc h => ?_)
    · exact r_vret C rfl (Nat.le_of_ble_eq_true rfl) dX9_checkRange_18 (re_uv h)
    · refine r_weak C [none, none, none] trivial ?_
      exact L10 _ h
set_option maxHeartbeats 4000000 in
set_option maxRecDepth 100000 in
theorem mX9_checkSize {l : Launch} {D : va_G} {ad : Nat → Nat} {cy : Nat → ClassId} (hl : l.stackTraces = false) (hI : Inj ad)   {σ τ : Mem} {a0 : Int32} {r : Unit ⊕ String} (h : fX9_checkSize σ a0 = some (r, τ)) : Co l D ad cy yX9_checkSize cX9_checkSize 1 (Option.none : Option Jvm.ClassFile.FieldType) 7 122 1 [.int a0] σ (zu r) τ := by
  refine co_of (av := [.inl a0]) hl hI (by decide +kernel) (Nat.le_of_ble_eq_true rfl) [some (.inl a0)] rfl (fun V C => ?_)
  have C : Rl l D ad cy RX9 cX9_checkSize 1 (Option.none : Option Jvm.ClassFile.FieldType) 7 122 1 (zu r) τ V := C
  refine r_iload_n C dX9_checkSize_0 rfl ?_
  refine r_iconst C ic_2 dX9_checkSize_1 ?_
  refine r_bipush C bp_8 dX9_checkSize_2 ?_
  refine bx_e h (fun v3 σ3 hf3 h => ?_) (fun e9 σ3 hf3 h => ?_)
  · refine r_callSv C g_X9_checkRange ml_X9_114 (mX9_checkRange hl hI  hf3) rfl rfl (by exact Nat.le_of_ble_eq_true rfl) ⟨Nat.le_of_ble_eq_true rfl, Nat.le_of_ble_eq_true rfl, Nat.le_of_ble_eq_true rfl⟩ dX9_checkSize_4 ?_
    exact r_vret C rfl (Nat.le_of_ble_eq_true rfl) dX9_checkSize_7 (re_uv h)
  · exact r_callSx C g_X9_checkRange ml_X9_114 (mX9_checkRange hl hI  hf3) rfl rfl (by exact Nat.le_of_ble_eq_true rfl) ⟨Nat.le_of_ble_eq_true rfl, Nat.le_of_ble_eq_true rfl, Nat.le_of_ble_eq_true rfl⟩ dX9_checkSize_4 (re_ue h)
set_option maxHeartbeats 4000000 in
set_option maxRecDepth 100000 in
theorem mX9_addVariable {l : Launch} {D : va_G} {ad : Nat → Nat} {cy : Nat → ClassId} (hl : l.stackTraces = false) (hI : Inj ad)   {σ τ : Mem} {a1 : Int32} {r : Int32 ⊕ String} (h : fX9_addVariable σ a1 = some (r, τ)) : Co l D ad cy yX9_addVariable cX9_addVariable 2 (Option.some Jvm.ClassFile.FieldType.int) 8 233 2 [.ref (ad 0), .int a1] σ (zx r) τ := by
  refine co_of (av := [.inr 0, .inl a1]) hl hI (by decide +kernel) (Nat.le_of_ble_eq_true rfl) [some (.inr 0), some (.inl a1)] rfl (fun V C => ?_)
  have C : Rl l D ad cy RX9 cX9_addVariable 2 (Option.some Jvm.ClassFile.FieldType.int) 8 233 2 (zx r) τ V := C
  refine r_iload_n C dX9_addVariable_0 rfl ?_
  refine bx_e h (fun v9 σ9 hf9 h => ?_) (fun e9 σ9 hf9 h => ?_)
  · refine r_callSv C g_X9_checkSize ml_X9_84 (mX9_checkSize hl hI  hf9) rfl rfl (by exact Nat.le_of_ble_eq_true rfl) ⟨Nat.le_of_ble_eq_true rfl, Nat.le_of_ble_eq_true rfl, Nat.le_of_ble_eq_true rfl⟩ dX9_addVariable_1 ?_
    refine r_aload_n C dX9_addVariable_4 rfl ?_
    refine r_getR C ck_9 f_0_0 (by decide) fl_X9_12 rfl dX9_addVariable_5 ?_
    refine r_getI C ck_4 f_1_7 (by decide) fl_X9_69 rfl dX9_addVariable_8 ?_
    refine r_bipush C bp_10 dX9_addVariable_11 ?_
    refine r_ic_lt C (tgt := 24) h (by decide) dX9_addVariable_13 (fun hc h => ?_) (fun hc h => ?_)
    · refine r_aload_n C dX9_addVariable_24 rfl ?_
      refine r_getR C ck_9 f_0_2 (by decide) fl_X9_22 rfl dX9_addVariable_25 ?_
      refine r_aload_n C dX9_addVariable_28 rfl ?_
      refine r_getR C ck_9 f_0_0 (by decide) fl_X9_12 rfl dX9_addVariable_29 ?_
      refine bv_e h (fun σ10 hf10 h => ?_)
      refine r_callVv C g_X1_remember hc_1 o_81 ml_X9_91 (mX1_remember hl hI  hf10) rfl rfl (by exact Nat.le_of_ble_eq_true rfl) ⟨Nat.le_of_ble_eq_true rfl, Nat.le_of_ble_eq_true rfl, Nat.le_of_ble_eq_true rfl⟩ dX9_addVariable_32 ?_
      refine r_aload_n C dX9_addVariable_35 rfl ?_
      refine r_getR C ck_9 f_0_0 (by decide) fl_X9_12 rfl dX9_addVariable_36 ?_
      refine r_iload_n C dX9_addVariable_39 rfl ?_
      refine bv_e h (fun σ11 hf11 h => ?_)
      refine r_callVv C g_X4_putVariable hc_4 o_1 ml_X9_95 (mX4_putVariable hl hI  hf11) rfl rfl (by exact Nat.le_of_ble_eq_true rfl) ⟨Nat.le_of_ble_eq_true rfl, Nat.le_of_ble_eq_true rfl, Nat.le_of_ble_eq_true rfl⟩ dX9_addVariable_40 ?_
      refine r_aload_n C dX9_addVariable_43 rfl ?_
      refine bv_e h (fun σ12 hf12 h => ?_)
      refine r_callVv C g_X9_beginSearch hc_9 o_0 ml_X9_81 (mX9_beginSearch hl hI  hf12) rfl rfl (by exact Nat.le_of_ble_eq_true rfl) ⟨Nat.le_of_ble_eq_true rfl, Nat.le_of_ble_eq_true rfl, Nat.le_of_ble_eq_true rfl⟩ dX9_addVariable_44 ?_
      refine r_aload_n C dX9_addVariable_47 rfl ?_
      refine r_getR C ck_9 f_0_0 (by decide) fl_X9_12 rfl dX9_addVariable_48 ?_
      refine r_getI C ck_4 f_1_7 (by decide) fl_X9_69 rfl dX9_addVariable_51 ?_
      refine r_iconst C ic_1 dX9_addVariable_54 ?_
      refine r_isub C dX9_addVariable_55 ?_
      exact r_iret C rfl (Nat.le_of_ble_eq_true rfl) dX9_addVariable_56 (re_xi h)
    · exact r_throw C th_X9_88 dX9_addVariable_16 dX9_addVariable_19 dX9_addVariable_20 dX9_addVariable_23 ⟨by decide, Nat.le_of_ble_eq_true rfl, by decide⟩ (re_xe h)
  · exact r_callSx C g_X9_checkSize ml_X9_84 (mX9_checkSize hl hI  hf9) rfl rfl (by exact Nat.le_of_ble_eq_true rfl) ⟨Nat.le_of_ble_eq_true rfl, Nat.le_of_ble_eq_true rfl, Nat.le_of_ble_eq_true rfl⟩ dX9_addVariable_1 (re_xe h)
set_option maxHeartbeats 4000000 in
set_option maxRecDepth 100000 in
theorem mX9_checkVariable {l : Launch} {D : va_G} {ad : Nat → Nat} {cy : Nat → ClassId} (hl : l.stackTraces = false) (hI : Inj ad)   {σ τ : Mem} {a1 : Int32} {r : Unit ⊕ String} (h : fX9_checkVariable σ a1 = some (r, τ)) : Co l D ad cy yX9_checkVariable cX9_checkVariable 2 (Option.none : Option Jvm.ClassFile.FieldType) 6 100 1 [.ref (ad 0), .int a1] σ (zu r) τ := by
  refine co_of (av := [.inr 0, .inl a1]) hl hI (by decide +kernel) (Nat.le_of_ble_eq_true rfl) [some (.inr 0), some (.inl a1)] rfl (fun V C => ?_)
  have C : Rl l D ad cy RX9 cX9_checkVariable 2 (Option.none : Option Jvm.ClassFile.FieldType) 6 100 1 (zu r) τ V := C
  have L15 : ∀ (σ : Mem), fX9_checkVariable_L15   σ  = some (r, τ) → V 0 σ 15 [none, none] [] := by
    intro  σ  h
    exact r_throw C th_X9_222 dX9_checkVariable_15 dX9_checkVariable_18 dX9_checkVariable_19 dX9_checkVariable_22 ⟨by decide, Nat.le_of_ble_eq_true rfl, by decide⟩ (re_ue h)
  refine r_iload_n C dX9_checkVariable_0 rfl ?_
  refine r_if_lt C (tgt := 15) h (by decide) dX9_checkVariable_1 (fun hc h => ?_) (fun hc h => ?_)
  · refine r_weak C [none, none] trivial ?_
    exact L15 _ h
  · refine r_iload_n C dX9_checkVariable_4 rfl ?_
    refine r_aload_n C dX9_checkVariable_5 rfl ?_
    refine r_getR C ck_9 f_0_0 (by decide) fl_X9_12 rfl dX9_checkVariable_6 ?_
    refine r_getI C ck_4 f_1_7 (by decide) fl_X9_69 rfl dX9_checkVariable_9 ?_
    refine r_ic_lt C (tgt := 23) h (by decide) dX9_checkVariable_12 (fun hc h => ?_) (fun hc h => ?_)
    · exact r_vret C rfl (Nat.le_of_ble_eq_true rfl) dX9_checkVariable_23 (re_uv h)
    · refine r_weak C [none, none] trivial ?_
      exact L15 _ h
set_option maxHeartbeats 4000000 in
set_option maxRecDepth 100000 in
theorem mX9_setDomain {l : Launch} {D : va_G} {ad : Nat → Nat} {cy : Nat → ClassId} (hl : l.stackTraces = false) (hI : Inj ad)   {σ τ : Mem} {a1 a2 : Int32} {r : Int32 ⊕ String} (h : fX9_setDomain σ a1 a2 = some (r, τ)) : Co l D ad cy yX9_setDomain cX9_setDomain 4 (Option.some Jvm.ClassFile.FieldType.int) 8 233 2 [.ref (ad 0), .int a1, .int a2] σ (zx r) τ := by
  refine co_of (av := [.inr 0, .inl a1, .inl a2]) hl hI (by decide +kernel) (Nat.le_of_ble_eq_true rfl) [some (.inr 0), some (.inl a1), some (.inl a2), none] rfl (fun V C => ?_)
  have C : Rl l D ad cy RX9 cX9_setDomain 4 (Option.some Jvm.ClassFile.FieldType.int) 8 233 2 (zx r) τ V := C
  refine r_aload_n C dX9_setDomain_0 rfl ?_
  refine r_iload_n C dX9_setDomain_1 rfl ?_
  refine bx_e h (fun v13 σ13 hf13 h => ?_) (fun e9 σ13 hf13 h => ?_)
  · refine r_callVv C g_X9_checkVariable hc_9 o_0 ml_X9_98 (mX9_checkVariable hl hI  hf13) rfl rfl (by exact Nat.le_of_ble_eq_true rfl) ⟨Nat.le_of_ble_eq_true rfl, Nat.le_of_ble_eq_true rfl, Nat.le_of_ble_eq_true rfl⟩ dX9_setDomain_2 ?_
    refine r_iload_n C dX9_setDomain_5 rfl ?_
    refine bx_e h (fun v14 σ14 hf14 h => ?_) (fun e9 σ14 hf14 h => ?_)
    · refine r_callSv C g_X9_checkSize ml_X9_84 (mX9_checkSize hl hI  hf14) rfl rfl (by exact Nat.le_of_ble_eq_true rfl) ⟨Nat.le_of_ble_eq_true rfl, Nat.le_of_ble_eq_true rfl, Nat.le_of_ble_eq_true rfl⟩ dX9_setDomain_6 ?_
      refine r_aload_n C dX9_setDomain_9 rfl ?_
      refine r_getR C ck_9 f_0_2 (by decide) fl_X9_22 rfl dX9_setDomain_10 ?_
      refine r_aload_n C dX9_setDomain_13 rfl ?_
      refine r_getR C ck_9 f_0_0 (by decide) fl_X9_12 rfl dX9_setDomain_14 ?_
      refine bv_e h (fun σ15 hf15 h => ?_)
      refine r_callVv C g_X1_remember hc_1 o_81 ml_X9_91 (mX1_remember hl hI  hf15) rfl rfl (by exact Nat.le_of_ble_eq_true rfl) ⟨Nat.le_of_ble_eq_true rfl, Nat.le_of_ble_eq_true rfl, Nat.le_of_ble_eq_true rfl⟩ dX9_setDomain_17 ?_
      refine r_aload_n C dX9_setDomain_20 rfl ?_
      refine r_getR C ck_9 f_0_0 (by decide) fl_X9_12 rfl dX9_setDomain_21 ?_
      refine r_getR C ck_4 f_1_0 (by decide) fl_X9_101 rfl dX9_setDomain_24 ?_
      refine r_iload_n C dX9_setDomain_27 rfl ?_
      obtain ⟨hi, h⟩ := ck_e h
      refine r_iald C i_2 hi dX9_setDomain_28 ?_
      refine r_istore_n C (by decide) dX9_setDomain_29 ?_
      refine r_aload_n C dX9_setDomain_30 rfl ?_
      refine r_getR C ck_9 f_0_0 (by decide) fl_X9_12 rfl dX9_setDomain_31 ?_
      refine r_getR C ck_4 f_1_0 (by decide) fl_X9_101 rfl dX9_setDomain_34 ?_
      refine r_iload_n C dX9_setDomain_37 rfl ?_
      refine r_iload_n C dX9_setDomain_38 rfl ?_
      obtain ⟨hi, h⟩ := ck_e h
      refine r_iast C i_2 hi dX9_setDomain_39 h (fun σ16 h => ?_)
      refine r_aload_n C dX9_setDomain_40 rfl ?_
      refine r_getR C ck_9 f_0_0 (by decide) fl_X9_12 rfl dX9_setDomain_41 ?_
      refine r_getR C ck_4 f_1_1 (by decide) fl_X9_105 rfl dX9_setDomain_44 ?_
      refine r_iload_n C dX9_setDomain_47 rfl ?_
      refine r_aload_n C dX9_setDomain_48 rfl ?_
      refine r_getR C ck_9 f_0_0 (by decide) fl_X9_12 rfl dX9_setDomain_49 ?_
      refine r_getR C ck_4 f_1_1 (by decide) fl_X9_105 rfl dX9_setDomain_52 ?_
      refine r_iload_n C dX9_setDomain_55 rfl ?_
      obtain ⟨hi, h⟩ := ck_e h
      refine r_iald C i_3 hi dX9_setDomain_56 ?_
      refine r_iload_n C dX9_setDomain_57 rfl ?_
      refine r_iconst C ic_1 dX9_setDomain_58 ?_
      refine r_isub C dX9_setDomain_59 ?_
      refine r_mmin C ml_X9_108 gm_min (by decide) (by exact Nat.le_of_ble_eq_true rfl) (by decide) dX9_setDomain_60 ?_
      obtain ⟨hi, h⟩ := ck_e h
      refine r_iast C i_3 hi dX9_setDomain_63 h (fun σ17 h => ?_)
      refine r_aload_n C dX9_setDomain_64 rfl ?_
      refine bv_e h (fun σ18 hf18 h => ?_)
      refine r_callVv C g_X9_beginSearch hc_9 o_0 ml_X9_81 (mX9_beginSearch hl hI  hf18) rfl rfl (by exact Nat.le_of_ble_eq_true rfl) ⟨Nat.le_of_ble_eq_true rfl, Nat.le_of_ble_eq_true rfl, Nat.le_of_ble_eq_true rfl⟩ dX9_setDomain_65 ?_
      refine r_iload_n C dX9_setDomain_68 rfl ?_
      exact r_iret C rfl (Nat.le_of_ble_eq_true rfl) dX9_setDomain_69 (re_xi h)
    · exact r_callSx C g_X9_checkSize ml_X9_84 (mX9_checkSize hl hI  hf14) rfl rfl (by exact Nat.le_of_ble_eq_true rfl) ⟨Nat.le_of_ble_eq_true rfl, Nat.le_of_ble_eq_true rfl, Nat.le_of_ble_eq_true rfl⟩ dX9_setDomain_6 (re_xe h)
  · exact r_callVx C g_X9_checkVariable hc_9 o_0 ml_X9_98 (mX9_checkVariable hl hI  hf13) rfl rfl (by exact Nat.le_of_ble_eq_true rfl) ⟨Nat.le_of_ble_eq_true rfl, Nat.le_of_ble_eq_true rfl, Nat.le_of_ble_eq_true rfl⟩ dX9_setDomain_2 (re_xe h)
set_option maxHeartbeats 4000000 in
set_option maxRecDepth 100000 in
theorem mX9_addConstraint {l : Launch} {D : va_G} {ad : Nat → Nat} {cy : Nat → ClassId} (hl : l.stackTraces = false) (hI : Inj ad)   {σ τ : Mem} {a1 a2 a3 a4 : Int32} {r : Int32 ⊕ String} (h : fX9_addConstraint σ a1 a2 a3 a4 = some (r, τ)) : Co l D ad cy yX9_addConstraint cX9_addConstraint 5 (Option.some Jvm.ClassFile.FieldType.int) 7 233 4 [.ref (ad 0), .int a1, .int a2, .int a3, .int a4] σ (zx r) τ := by
  refine co_of (av := [.inr 0, .inl a1, .inl a2, .inl a3, .inl a4]) hl hI (by decide +kernel) (Nat.le_of_ble_eq_true rfl) [some (.inr 0), some (.inl a1), some (.inl a2), some (.inl a3), some (.inl a4)] rfl (fun V C => ?_)
  have C : Rl l D ad cy RX9 cX9_addConstraint 5 (Option.some Jvm.ClassFile.FieldType.int) 7 233 4 (zx r) τ V := C
  have L44 : ∀ (σ : Mem), fX9_addConstraint_L44   σ  = some (r, τ) → V 3 σ 44 [none, none, none, none, none] [] := by
    intro  σ  h
    exact r_throw C th_X9_128 dX9_addConstraint_44 dX9_addConstraint_47 dX9_addConstraint_48 dX9_addConstraint_51 ⟨by decide, Nat.le_of_ble_eq_true rfl, by decide⟩ (re_xe h)
  refine r_iload_n C dX9_addConstraint_0 rfl ?_
  refine r_iconst C ic_0 dX9_addConstraint_1 ?_
  refine r_iconst C ic_5 dX9_addConstraint_2 ?_
  refine bx_e h (fun v17 σ17 hf17 h => ?_) (fun e9 σ17 hf17 h => ?_)
  · refine r_callSv C g_X9_checkRange ml_X9_114 (mX9_checkRange hl hI  hf17) rfl rfl (by exact Nat.le_of_ble_eq_true rfl) ⟨Nat.le_of_ble_eq_true rfl, Nat.le_of_ble_eq_true rfl, Nat.le_of_ble_eq_true rfl⟩ dX9_addConstraint_3 ?_
    refine r_iload_n C dX9_addConstraint_6 rfl ?_
    refine r_bipush C bp_m50 dX9_addConstraint_7 ?_
    refine r_bipush C bp_50 dX9_addConstraint_9 ?_
    refine bx_e h (fun v18 σ18 hf18 h => ?_) (fun e9 σ18 hf18 h => ?_)
    · refine r_callSv C g_X9_checkRange ml_X9_114 (mX9_checkRange hl hI  hf18) rfl rfl (by exact Nat.le_of_ble_eq_true rfl) ⟨Nat.le_of_ble_eq_true rfl, Nat.le_of_ble_eq_true rfl, Nat.le_of_ble_eq_true rfl⟩ dX9_addConstraint_11 ?_
      refine r_iload C dX9_addConstraint_14 rfl ?_
      refine r_iconst C ic_1 dX9_addConstraint_16 ?_
      refine r_bipush C bp_9 dX9_addConstraint_17 ?_
      refine bx_e h (fun v19 σ19 hf19 h => ?_) (fun e9 σ19 hf19 h => ?_)
      · refine r_callSv C g_X9_checkRange ml_X9_114 (mX9_checkRange hl hI  hf19) rfl rfl (by exact Nat.le_of_ble_eq_true rfl) ⟨Nat.le_of_ble_eq_true rfl, Nat.le_of_ble_eq_true rfl, Nat.le_of_ble_eq_true rfl⟩ dX9_addConstraint_19 ?_
        refine r_iload_n C dX9_addConstraint_22 rfl ?_
        refine bd_e h (fun v20 σ20 hf20 h => ?_)
        refine r_callSi C g_J6_bitCount_0f7a4 ml_X9_118 (mJ6_bitCount_0f7a4 hl hI  hf20) rfl rfl (by exact Nat.le_of_ble_eq_true rfl) ⟨Nat.le_of_ble_eq_true rfl, Nat.le_of_ble_eq_true rfl, Nat.le_of_ble_eq_true rfl⟩ dX9_addConstraint_23 ?_
        refine r_iconst C ic_2 dX9_addConstraint_26 ?_
        refine r_ic_lt C (tgt := 44) h (by decide) dX9_addConstraint_27 (fun hc h => ?_) (fun hc h => ?_)
        · refine r_weak C [none, none, none, none, none] trivial ?_
          exact L44 _ h
        · refine r_iload_n C dX9_addConstraint_30 rfl ?_
          refine r_aload_n C dX9_addConstraint_31 rfl ?_
          refine r_getR C ck_9 f_0_0 (by decide) fl_X9_12 rfl dX9_addConstraint_32 ?_
          refine r_getI C ck_4 f_1_7 (by decide) fl_X9_69 rfl dX9_addConstraint_35 ?_
          refine bd_e h (fun v21 σ21 hf21 h => ?_)
          refine r_callSi C g_X9_areMembers ml_X9_124 (mX9_areMembers hl hI  hf21) rfl rfl (by exact Nat.le_of_ble_eq_true rfl) ⟨Nat.le_of_ble_eq_true rfl, Nat.le_of_ble_eq_true rfl, Nat.le_of_ble_eq_true rfl⟩ dX9_addConstraint_38 ?_
          refine r_if_ne C (tgt := 52) h (by decide) dX9_addConstraint_41 (fun hc h => ?_) (fun hc h => ?_)
          · refine r_aload_n C dX9_addConstraint_52 rfl ?_
            refine r_getR C ck_9 f_0_0 (by decide) fl_X9_12 rfl dX9_addConstraint_53 ?_
            refine r_getI C ck_4 f_1_8 (by decide) fl_X9_131 rfl dX9_addConstraint_56 ?_
            refine r_bipush C bp_20 dX9_addConstraint_59 ?_
            refine r_ic_lt C (tgt := 72) h (by decide) dX9_addConstraint_61 (fun hc h => ?_) (fun hc h => ?_)
            · refine r_aload_n C dX9_addConstraint_72 rfl ?_
              refine r_getR C ck_9 f_0_2 (by decide) fl_X9_22 rfl dX9_addConstraint_73 ?_
              refine r_aload_n C dX9_addConstraint_76 rfl ?_
              refine r_getR C ck_9 f_0_0 (by decide) fl_X9_12 rfl dX9_addConstraint_77 ?_
              refine bv_e h (fun σ22 hf22 h => ?_)
              refine r_callVv C g_X1_remember hc_1 o_81 ml_X9_91 (mX1_remember hl hI  hf22) rfl rfl (by exact Nat.le_of_ble_eq_true rfl) ⟨Nat.le_of_ble_eq_true rfl, Nat.le_of_ble_eq_true rfl, Nat.le_of_ble_eq_true rfl⟩ dX9_addConstraint_80 ?_
              refine r_aload_n C dX9_addConstraint_83 rfl ?_
              refine r_getR C ck_9 f_0_0 (by decide) fl_X9_12 rfl dX9_addConstraint_84 ?_
              refine r_iload_n C dX9_addConstraint_87 rfl ?_
              refine r_iload_n C dX9_addConstraint_88 rfl ?_
              refine r_iload_n C dX9_addConstraint_89 rfl ?_
              refine r_iload C dX9_addConstraint_90 rfl ?_
              refine bv_e h (fun σ23 hf23 h => ?_)
              refine r_callVv C g_X4_putConstraint hc_4 o_1 ml_X9_134 (mX4_putConstraint hl hI  hf23) rfl rfl (by exact Nat.le_of_ble_eq_true rfl) ⟨Nat.le_of_ble_eq_true rfl, Nat.le_of_ble_eq_true rfl, Nat.le_of_ble_eq_true rfl⟩ dX9_addConstraint_92 ?_
              refine r_aload_n C dX9_addConstraint_95 rfl ?_
              refine bv_e h (fun σ24 hf24 h => ?_)
              refine r_callVv C g_X9_beginSearch hc_9 o_0 ml_X9_81 (mX9_beginSearch hl hI  hf24) rfl rfl (by exact Nat.le_of_ble_eq_true rfl) ⟨Nat.le_of_ble_eq_true rfl, Nat.le_of_ble_eq_true rfl, Nat.le_of_ble_eq_true rfl⟩ dX9_addConstraint_96 ?_
              refine r_aload_n C dX9_addConstraint_99 rfl ?_
              refine r_getR C ck_9 f_0_0 (by decide) fl_X9_12 rfl dX9_addConstraint_100 ?_
              refine r_getI C ck_4 f_1_8 (by decide) fl_X9_131 rfl dX9_addConstraint_103 ?_
              refine r_iconst C ic_1 dX9_addConstraint_106 ?_
              refine r_isub C dX9_addConstraint_107 ?_
              exact r_iret C rfl (Nat.le_of_ble_eq_true rfl) dX9_addConstraint_108 (re_xi h)
            · exact r_throw C th_X9_88 dX9_addConstraint_64 dX9_addConstraint_67 dX9_addConstraint_68 dX9_addConstraint_71 ⟨by decide, Nat.le_of_ble_eq_true rfl, by decide⟩ (re_xe h)
          · refine r_weak C [none, none, none, none, none] trivial ?_
            exact L44 _ h
      · exact r_callSx C g_X9_checkRange ml_X9_114 (mX9_checkRange hl hI  hf19) rfl rfl (by exact Nat.le_of_ble_eq_true rfl) ⟨Nat.le_of_ble_eq_true rfl, Nat.le_of_ble_eq_true rfl, Nat.le_of_ble_eq_true rfl⟩ dX9_addConstraint_19 (re_xe h)
    · exact r_callSx C g_X9_checkRange ml_X9_114 (mX9_checkRange hl hI  hf18) rfl rfl (by exact Nat.le_of_ble_eq_true rfl) ⟨Nat.le_of_ble_eq_true rfl, Nat.le_of_ble_eq_true rfl, Nat.le_of_ble_eq_true rfl⟩ dX9_addConstraint_11 (re_xe h)
  · exact r_callSx C g_X9_checkRange ml_X9_114 (mX9_checkRange hl hI  hf17) rfl rfl (by exact Nat.le_of_ble_eq_true rfl) ⟨Nat.le_of_ble_eq_true rfl, Nat.le_of_ble_eq_true rfl, Nat.le_of_ble_eq_true rfl⟩ dX9_addConstraint_3 (re_xe h)
set_option maxHeartbeats 4000000 in
set_option maxRecDepth 100000 in
theorem mX9_checkConstraint {l : Launch} {D : va_G} {ad : Nat → Nat} {cy : Nat → ClassId} (hl : l.stackTraces = false) (hI : Inj ad)   {σ τ : Mem} {a1 : Int32} {r : Unit ⊕ String} (h : fX9_checkConstraint σ a1 = some (r, τ)) : Co l D ad cy yX9_checkConstraint cX9_checkConstraint 2 (Option.none : Option Jvm.ClassFile.FieldType) 6 100 1 [.ref (ad 0), .int a1] σ (zu r) τ := by
  refine co_of (av := [.inr 0, .inl a1]) hl hI (by decide +kernel) (Nat.le_of_ble_eq_true rfl) [some (.inr 0), some (.inl a1)] rfl (fun V C => ?_)
  have C : Rl l D ad cy RX9 cX9_checkConstraint 2 (Option.none : Option Jvm.ClassFile.FieldType) 6 100 1 (zu r) τ V := C
  have L15 : ∀ (σ : Mem), fX9_checkConstraint_L15   σ  = some (r, τ) → V 0 σ 15 [none, none] [] := by
    intro  σ  h
    exact r_throw C th_X9_222 dX9_checkConstraint_15 dX9_checkConstraint_18 dX9_checkConstraint_19 dX9_checkConstraint_22 ⟨by decide, Nat.le_of_ble_eq_true rfl, by decide⟩ (re_ue h)
  refine r_iload_n C dX9_checkConstraint_0 rfl ?_
  refine r_if_lt C (tgt := 15) h (by decide) dX9_checkConstraint_1 (fun hc h => ?_) (fun hc h => ?_)
  · refine r_weak C [none, none] trivial ?_
    exact L15 _ h
  · refine r_iload_n C dX9_checkConstraint_4 rfl ?_
    refine r_aload_n C dX9_checkConstraint_5 rfl ?_
    refine r_getR C ck_9 f_0_0 (by decide) fl_X9_12 rfl dX9_checkConstraint_6 ?_
    refine r_getI C ck_4 f_1_8 (by decide) fl_X9_131 rfl dX9_checkConstraint_9 ?_
    refine r_ic_lt C (tgt := 23) h (by decide) dX9_checkConstraint_12 (fun hc h => ?_) (fun hc h => ?_)
    · exact r_vret C rfl (Nat.le_of_ble_eq_true rfl) dX9_checkConstraint_23 (re_uv h)
    · refine r_weak C [none, none] trivial ?_
      exact L15 _ h
set_option maxHeartbeats 4000000 in
set_option maxRecDepth 100000 in
theorem mX9_removeConstraint {l : Launch} {D : va_G} {ad : Nat → Nat} {cy : Nat → ClassId} (hl : l.stackTraces = false) (hI : Inj ad)   {σ τ : Mem} {a1 : Int32} {r : Int32 ⊕ String} (h : fX9_removeConstraint σ a1 = some (r, τ)) : Co l D ad cy yX9_removeConstraint cX9_removeConstraint 2 (Option.some Jvm.ClassFile.FieldType.int) 7 233 1 [.ref (ad 0), .int a1] σ (zx r) τ := by
  refine co_of (av := [.inr 0, .inl a1]) hl hI (by decide +kernel) (Nat.le_of_ble_eq_true rfl) [some (.inr 0), some (.inl a1)] rfl (fun V C => ?_)
  have C : Rl l D ad cy RX9 cX9_removeConstraint 2 (Option.some Jvm.ClassFile.FieldType.int) 7 233 1 (zx r) τ V := C
  refine r_aload_n C dX9_removeConstraint_0 rfl ?_
  refine r_iload_n C dX9_removeConstraint_1 rfl ?_
  refine bx_e h (fun v9 σ9 hf9 h => ?_) (fun e9 σ9 hf9 h => ?_)
  · refine r_callVv C g_X9_checkConstraint hc_9 o_0 ml_X9_138 (mX9_checkConstraint hl hI  hf9) rfl rfl (by exact Nat.le_of_ble_eq_true rfl) ⟨Nat.le_of_ble_eq_true rfl, Nat.le_of_ble_eq_true rfl, Nat.le_of_ble_eq_true rfl⟩ dX9_removeConstraint_2 ?_
    refine r_aload_n C dX9_removeConstraint_5 rfl ?_
    refine r_getR C ck_9 f_0_2 (by decide) fl_X9_22 rfl dX9_removeConstraint_6 ?_
    refine r_aload_n C dX9_removeConstraint_9 rfl ?_
    refine r_getR C ck_9 f_0_0 (by decide) fl_X9_12 rfl dX9_removeConstraint_10 ?_
    refine bv_e h (fun σ10 hf10 h => ?_)
    refine r_callVv C g_X1_remember hc_1 o_81 ml_X9_91 (mX1_remember hl hI  hf10) rfl rfl (by exact Nat.le_of_ble_eq_true rfl) ⟨Nat.le_of_ble_eq_true rfl, Nat.le_of_ble_eq_true rfl, Nat.le_of_ble_eq_true rfl⟩ dX9_removeConstraint_13 ?_
    refine r_aload_n C dX9_removeConstraint_16 rfl ?_
    refine r_getR C ck_9 f_0_0 (by decide) fl_X9_12 rfl dX9_removeConstraint_17 ?_
    refine r_iload_n C dX9_removeConstraint_20 rfl ?_
    refine bv_e h (fun σ11 hf11 h => ?_)
    refine r_callVv C g_X4_dropConstraint hc_4 o_1 ml_X9_141 (mX4_dropConstraint hl hI  hf11) rfl rfl (by exact Nat.le_of_ble_eq_true rfl) ⟨Nat.le_of_ble_eq_true rfl, Nat.le_of_ble_eq_true rfl, Nat.le_of_ble_eq_true rfl⟩ dX9_removeConstraint_21 ?_
    refine r_aload_n C dX9_removeConstraint_24 rfl ?_
    refine bv_e h (fun σ12 hf12 h => ?_)
    refine r_callVv C g_X9_beginSearch hc_9 o_0 ml_X9_81 (mX9_beginSearch hl hI  hf12) rfl rfl (by exact Nat.le_of_ble_eq_true rfl) ⟨Nat.le_of_ble_eq_true rfl, Nat.le_of_ble_eq_true rfl, Nat.le_of_ble_eq_true rfl⟩ dX9_removeConstraint_25 ?_
    refine r_aload_n C dX9_removeConstraint_28 rfl ?_
    refine r_getR C ck_9 f_0_0 (by decide) fl_X9_12 rfl dX9_removeConstraint_29 ?_
    refine r_getI C ck_4 f_1_8 (by decide) fl_X9_131 rfl dX9_removeConstraint_32 ?_
    exact r_iret C rfl (Nat.le_of_ble_eq_true rfl) dX9_removeConstraint_35 (re_xi h)
  · exact r_callVx C g_X9_checkConstraint hc_9 o_0 ml_X9_138 (mX9_checkConstraint hl hI  hf9) rfl rfl (by exact Nat.le_of_ble_eq_true rfl) ⟨Nat.le_of_ble_eq_true rfl, Nat.le_of_ble_eq_true rfl, Nat.le_of_ble_eq_true rfl⟩ dX9_removeConstraint_2 (re_xe h)
set_option maxHeartbeats 4000000 in
set_option maxRecDepth 100000 in
theorem mX9_setWeight {l : Launch} {D : va_G} {ad : Nat → Nat} {cy : Nat → ClassId} (hl : l.stackTraces = false) (hI : Inj ad)   {σ τ : Mem} {a1 a2 : Int32} {r : Int32 ⊕ String} (h : fX9_setWeight σ a1 a2 = some (r, τ)) : Co l D ad cy yX9_setWeight cX9_setWeight 4 (Option.some Jvm.ClassFile.FieldType.int) 7 233 2 [.ref (ad 0), .int a1, .int a2] σ (zx r) τ := by
  refine co_of (av := [.inr 0, .inl a1, .inl a2]) hl hI (by decide +kernel) (Nat.le_of_ble_eq_true rfl) [some (.inr 0), some (.inl a1), some (.inl a2), none] rfl (fun V C => ?_)
  have C : Rl l D ad cy RX9 cX9_setWeight 4 (Option.some Jvm.ClassFile.FieldType.int) 7 233 2 (zx r) τ V := C
  refine r_aload_n C dX9_setWeight_0 rfl ?_
  refine r_iload_n C dX9_setWeight_1 rfl ?_
  refine bx_e h (fun v11 σ11 hf11 h => ?_) (fun e9 σ11 hf11 h => ?_)
  · refine r_callVv C g_X9_checkConstraint hc_9 o_0 ml_X9_138 (mX9_checkConstraint hl hI  hf11) rfl rfl (by exact Nat.le_of_ble_eq_true rfl) ⟨Nat.le_of_ble_eq_true rfl, Nat.le_of_ble_eq_true rfl, Nat.le_of_ble_eq_true rfl⟩ dX9_setWeight_2 ?_
    refine r_iload_n C dX9_setWeight_5 rfl ?_
    refine r_iconst C ic_1 dX9_setWeight_6 ?_
    refine r_bipush C bp_9 dX9_setWeight_7 ?_
    refine bx_e h (fun v12 σ12 hf12 h => ?_) (fun e9 σ12 hf12 h => ?_)
    · refine r_callSv C g_X9_checkRange ml_X9_114 (mX9_checkRange hl hI  hf12) rfl rfl (by exact Nat.le_of_ble_eq_true rfl) ⟨Nat.le_of_ble_eq_true rfl, Nat.le_of_ble_eq_true rfl, Nat.le_of_ble_eq_true rfl⟩ dX9_setWeight_9 ?_
      refine r_aload_n C dX9_setWeight_12 rfl ?_
      refine r_getR C ck_9 f_0_2 (by decide) fl_X9_22 rfl dX9_setWeight_13 ?_
      refine r_aload_n C dX9_setWeight_16 rfl ?_
      refine r_getR C ck_9 f_0_0 (by decide) fl_X9_12 rfl dX9_setWeight_17 ?_
      refine bv_e h (fun σ13 hf13 h => ?_)
      refine r_callVv C g_X1_remember hc_1 o_81 ml_X9_91 (mX1_remember hl hI  hf13) rfl rfl (by exact Nat.le_of_ble_eq_true rfl) ⟨Nat.le_of_ble_eq_true rfl, Nat.le_of_ble_eq_true rfl, Nat.le_of_ble_eq_true rfl⟩ dX9_setWeight_20 ?_
      refine r_aload_n C dX9_setWeight_23 rfl ?_
      refine r_getR C ck_9 f_0_0 (by decide) fl_X9_12 rfl dX9_setWeight_24 ?_
      refine r_getR C ck_4 f_1_5 (by decide) fl_X9_144 rfl dX9_setWeight_27 ?_
      refine r_iload_n C dX9_setWeight_30 rfl ?_
      obtain ⟨hi, h⟩ := ck_e h
      refine r_iald C i_7 hi dX9_setWeight_31 ?_
      refine r_istore_n C (by decide) dX9_setWeight_32 ?_
      refine r_aload_n C dX9_setWeight_33 rfl ?_
      refine r_getR C ck_9 f_0_0 (by decide) fl_X9_12 rfl dX9_setWeight_34 ?_
      refine r_getR C ck_4 f_1_5 (by decide) fl_X9_144 rfl dX9_setWeight_37 ?_
      refine r_iload_n C dX9_setWeight_40 rfl ?_
      refine r_iload_n C dX9_setWeight_41 rfl ?_
      obtain ⟨hi, h⟩ := ck_e h
      refine r_iast C i_7 hi dX9_setWeight_42 h (fun σ14 h => ?_)
      refine r_aload_n C dX9_setWeight_43 rfl ?_
      refine bv_e h (fun σ15 hf15 h => ?_)
      refine r_callVv C g_X9_beginSearch hc_9 o_0 ml_X9_81 (mX9_beginSearch hl hI  hf15) rfl rfl (by exact Nat.le_of_ble_eq_true rfl) ⟨Nat.le_of_ble_eq_true rfl, Nat.le_of_ble_eq_true rfl, Nat.le_of_ble_eq_true rfl⟩ dX9_setWeight_44 ?_
      refine r_iload_n C dX9_setWeight_47 rfl ?_
      exact r_iret C rfl (Nat.le_of_ble_eq_true rfl) dX9_setWeight_48 (re_xi h)
    · exact r_callSx C g_X9_checkRange ml_X9_114 (mX9_checkRange hl hI  hf12) rfl rfl (by exact Nat.le_of_ble_eq_true rfl) ⟨Nat.le_of_ble_eq_true rfl, Nat.le_of_ble_eq_true rfl, Nat.le_of_ble_eq_true rfl⟩ dX9_setWeight_9 (re_xe h)
  · exact r_callVx C g_X9_checkConstraint hc_9 o_0 ml_X9_138 (mX9_checkConstraint hl hI  hf11) rfl rfl (by exact Nat.le_of_ble_eq_true rfl) ⟨Nat.le_of_ble_eq_true rfl, Nat.le_of_ble_eq_true rfl, Nat.le_of_ble_eq_true rfl⟩ dX9_setWeight_2 (re_xe h)
set_option maxHeartbeats 4000000 in
set_option maxRecDepth 100000 in
theorem mX9_setValue {l : Launch} {D : va_G} {ad : Nat → Nat} {cy : Nat → ClassId} (hl : l.stackTraces = false) (hI : Inj ad)   {σ τ : Mem} {a1 a2 : Int32} {r : Int32 ⊕ String} (h : fX9_setValue σ a1 a2 = some (r, τ)) : Co l D ad cy yX9_setValue cX9_setValue 4 (Option.some Jvm.ClassFile.FieldType.int) 7 233 2 [.ref (ad 0), .int a1, .int a2] σ (zx r) τ := by
  refine co_of (av := [.inr 0, .inl a1, .inl a2]) hl hI (by decide +kernel) (Nat.le_of_ble_eq_true rfl) [some (.inr 0), some (.inl a1), some (.inl a2), none] rfl (fun V C => ?_)
  have C : Rl l D ad cy RX9 cX9_setValue 4 (Option.some Jvm.ClassFile.FieldType.int) 7 233 2 (zx r) τ V := C
  refine r_aload_n C dX9_setValue_0 rfl ?_
  refine r_iload_n C dX9_setValue_1 rfl ?_
  refine bx_e h (fun v9 σ9 hf9 h => ?_) (fun e9 σ9 hf9 h => ?_)
  · refine r_callVv C g_X9_checkVariable hc_9 o_0 ml_X9_98 (mX9_checkVariable hl hI  hf9) rfl rfl (by exact Nat.le_of_ble_eq_true rfl) ⟨Nat.le_of_ble_eq_true rfl, Nat.le_of_ble_eq_true rfl, Nat.le_of_ble_eq_true rfl⟩ dX9_setValue_2 ?_
    refine r_iload_n C dX9_setValue_5 rfl ?_
    refine r_iconst C ic_0 dX9_setValue_6 ?_
    refine r_aload_n C dX9_setValue_7 rfl ?_
    refine r_getR C ck_9 f_0_0 (by decide) fl_X9_12 rfl dX9_setValue_8 ?_
    refine r_getR C ck_4 f_1_0 (by decide) fl_X9_101 rfl dX9_setValue_11 ?_
    refine r_iload_n C dX9_setValue_14 rfl ?_
    obtain ⟨hi, h⟩ := ck_e h
    refine r_iald C i_2 hi dX9_setValue_15 ?_
    refine r_iconst C ic_1 dX9_setValue_16 ?_
    refine r_isub C dX9_setValue_17 ?_
    refine bx_e h (fun v10 σ10 hf10 h => ?_) (fun e9 σ10 hf10 h => ?_)
    · refine r_callSv C g_X9_checkRange ml_X9_114 (mX9_checkRange hl hI  hf10) rfl rfl (by exact Nat.le_of_ble_eq_true rfl) ⟨Nat.le_of_ble_eq_true rfl, Nat.le_of_ble_eq_true rfl, Nat.le_of_ble_eq_true rfl⟩ dX9_setValue_18 ?_
      refine r_aload_n C dX9_setValue_21 rfl ?_
      refine r_getR C ck_9 f_0_0 (by decide) fl_X9_12 rfl dX9_setValue_22 ?_
      refine r_getR C ck_4 f_1_1 (by decide) fl_X9_105 rfl dX9_setValue_25 ?_
      refine r_iload_n C dX9_setValue_28 rfl ?_
      obtain ⟨hi, h⟩ := ck_e h
      refine r_iald C i_3 hi dX9_setValue_29 ?_
      refine r_istore_n C (by decide) dX9_setValue_30 ?_
      refine r_aload_n C dX9_setValue_31 rfl ?_
      refine r_getR C ck_9 f_0_0 (by decide) fl_X9_12 rfl dX9_setValue_32 ?_
      refine r_getR C ck_4 f_1_1 (by decide) fl_X9_105 rfl dX9_setValue_35 ?_
      refine r_iload_n C dX9_setValue_38 rfl ?_
      refine r_iload_n C dX9_setValue_39 rfl ?_
      obtain ⟨hi, h⟩ := ck_e h
      refine r_iast C i_3 hi dX9_setValue_40 h (fun σ11 h => ?_)
      refine r_aload_n C dX9_setValue_41 rfl ?_
      refine bv_e h (fun σ12 hf12 h => ?_)
      refine r_callVv C g_X9_beginSearch hc_9 o_0 ml_X9_81 (mX9_beginSearch hl hI  hf12) rfl rfl (by exact Nat.le_of_ble_eq_true rfl) ⟨Nat.le_of_ble_eq_true rfl, Nat.le_of_ble_eq_true rfl, Nat.le_of_ble_eq_true rfl⟩ dX9_setValue_42 ?_
      refine r_iload_n C dX9_setValue_45 rfl ?_
      exact r_iret C rfl (Nat.le_of_ble_eq_true rfl) dX9_setValue_46 (re_xi h)
    · exact r_callSx C g_X9_checkRange ml_X9_114 (mX9_checkRange hl hI  hf10) rfl rfl (by exact Nat.le_of_ble_eq_true rfl) ⟨Nat.le_of_ble_eq_true rfl, Nat.le_of_ble_eq_true rfl, Nat.le_of_ble_eq_true rfl⟩ dX9_setValue_18 (re_xe h)
  · exact r_callVx C g_X9_checkVariable hc_9 o_0 ml_X9_98 (mX9_checkVariable hl hI  hf9) rfl rfl (by exact Nat.le_of_ble_eq_true rfl) ⟨Nat.le_of_ble_eq_true rfl, Nat.le_of_ble_eq_true rfl, Nat.le_of_ble_eq_true rfl⟩ dX9_setValue_2 (re_xe h)
set_option maxHeartbeats 4000000 in
set_option maxRecDepth 100000 in
theorem mX9_count {l : Launch} {D : va_G} {ad : Nat → Nat} {cy : Nat → ClassId} (hl : l.stackTraces = false) (hI : Inj ad)   {σ τ : Mem} {a1 : Int32} {r : Int32 ⊕ String} (h : fX9_count σ a1 = some (r, τ)) : Co l D ad cy yX9_count cX9_count 2 (Option.some Jvm.ClassFile.FieldType.int) 6 171 1 [.ref (ad 0), .int a1] σ (zx r) τ := by
  refine co_of (av := [.inr 0, .inl a1]) hl hI (by decide +kernel) (Nat.le_of_ble_eq_true rfl) [some (.inr 0), some (.inl a1)] rfl (fun V C => ?_)
  have C : Rl l D ad cy RX9 cX9_count 2 (Option.some Jvm.ClassFile.FieldType.int) 6 171 1 (zx r) τ V := C
  refine r_iload_n C dX9_count_0 rfl ?_
  refine sw_e h (fun he0 h => ?_) (fun he0 h => ?_)
  · refine r_tinE C 31 (tgt := 32) dX9_count_1 he0 ⟨by decide, by decide⟩ (by decide) (by decide) ?_
    refine r_aload_n C dX9_count_32 rfl ?_
    refine r_getR C ck_9 f_0_0 (by decide) fl_X9_12 rfl dX9_count_33 ?_
    refine r_getI C ck_4 f_1_7 (by decide) fl_X9_69 rfl dX9_count_36 ?_
    exact r_iret C rfl (Nat.le_of_ble_eq_true rfl) dX9_count_39 (re_xi h)
  · refine sw_e h (fun he1 h => ?_) (fun he1 h => ?_)
    · refine r_tinE C 39 (tgt := 40) dX9_count_1 he1 ⟨by decide, by decide⟩ (by decide) (by decide) ?_
      refine r_aload_n C dX9_count_40 rfl ?_
      refine r_getR C ck_9 f_0_0 (by decide) fl_X9_12 rfl dX9_count_41 ?_
      refine r_getI C ck_4 f_1_8 (by decide) fl_X9_131 rfl dX9_count_44 ?_
      exact r_iret C rfl (Nat.le_of_ble_eq_true rfl) dX9_count_47 (re_xi h)
    · refine sw_e h (fun he2 h => ?_) (fun he2 h => ?_)
      · refine r_tinE C 47 (tgt := 48) dX9_count_1 he2 ⟨by decide, by decide⟩ (by decide) (by decide) ?_
        refine r_aload_n C dX9_count_48 rfl ?_
        refine r_getR C ck_9 f_0_0 (by decide) fl_X9_12 rfl dX9_count_49 ?_
        refine bd_e h (fun v5 σ5 hf5 h => ?_)
        refine r_callVi C g_X4_violatedConstraints hc_4 o_1 ml_X9_147 (mX4_violatedConstraints hl hI  hf5) rfl rfl (by exact Nat.le_of_ble_eq_true rfl) ⟨Nat.le_of_ble_eq_true rfl, Nat.le_of_ble_eq_true rfl, Nat.le_of_ble_eq_true rfl⟩ dX9_count_52 ?_
        exact r_iret C rfl (Nat.le_of_ble_eq_true rfl) dX9_count_55 (re_xi h)
      · refine sw_e h (fun he3 h => ?_) (fun he3 h => ?_)
        · refine r_tinE C 55 (tgt := 56) dX9_count_1 he3 ⟨by decide, by decide⟩ (by decide) (by decide) ?_
          refine r_aload_n C dX9_count_56 rfl ?_
          refine r_getR C ck_9 f_0_0 (by decide) fl_X9_12 rfl dX9_count_57 ?_
          refine bd_e h (fun v6 σ6 hf6 h => ?_)
          refine r_callVi C g_X4_combinations hc_4 o_1 ml_X9_151 (mX4_combinations hl hI  hf6) rfl rfl (by exact Nat.le_of_ble_eq_true rfl) ⟨Nat.le_of_ble_eq_true rfl, Nat.le_of_ble_eq_true rfl, Nat.le_of_ble_eq_true rfl⟩ dX9_count_60 ?_
          exact r_iret C rfl (Nat.le_of_ble_eq_true rfl) dX9_count_63 (re_xi h)
        · refine r_tout C (tgt := 64) dX9_count_1 (tout 3 (by decide) (fun j hj => match j, hj with | 0, _ => he0 | 1, _ => he1 | 2, _ => he2 | 3, _ => he3)) (by decide) ?_
          exact r_throw C th_X9_128 dX9_count_64 dX9_count_67 dX9_count_68 dX9_count_71 ⟨by decide, Nat.le_of_ble_eq_true rfl, by decide⟩ (re_xe h)
set_option maxHeartbeats 4000000 in
set_option maxRecDepth 100000 in
theorem mX9_constraint {l : Launch} {D : va_G} {ad : Nat → Nat} {cy : Nat → ClassId} (hl : l.stackTraces = false) (hI : Inj ad)   {σ τ : Mem} {a1 a2 : Int32} {r : Int32 ⊕ String} (h : fX9_constraint σ a1 a2 = some (r, τ)) : Co l D ad cy yX9_constraint cX9_constraint 3 (Option.some Jvm.ClassFile.FieldType.int) 7 121 2 [.ref (ad 0), .int a1, .int a2] σ (zx r) τ := by
  refine co_of (av := [.inr 0, .inl a1, .inl a2]) hl hI (by decide +kernel) (Nat.le_of_ble_eq_true rfl) [some (.inr 0), some (.inl a1), some (.inl a2)] rfl (fun V C => ?_)
  have C : Rl l D ad cy RX9 cX9_constraint 3 (Option.some Jvm.ClassFile.FieldType.int) 7 121 2 (zx r) τ V := C
  refine r_aload_n C dX9_constraint_0 rfl ?_
  refine r_iload_n C dX9_constraint_1 rfl ?_
  refine bx_e h (fun v3 σ3 hf3 h => ?_) (fun e9 σ3 hf3 h => ?_)
  · refine r_callVv C g_X9_checkConstraint hc_9 o_0 ml_X9_138 (mX9_checkConstraint hl hI  hf3) rfl rfl (by exact Nat.le_of_ble_eq_true rfl) ⟨Nat.le_of_ble_eq_true rfl, Nat.le_of_ble_eq_true rfl, Nat.le_of_ble_eq_true rfl⟩ dX9_constraint_2 ?_
    refine r_iload_n C dX9_constraint_5 rfl ?_
    refine sw_e h (fun he0 h => ?_) (fun he0 h => ?_)
    · refine r_tinE C 30 (tgt := 36) dX9_constraint_6 he0 ⟨by decide, by decide⟩ (by decide) (by decide) ?_
      refine r_aload_n C dX9_constraint_36 rfl ?_
      refine r_getR C ck_9 f_0_0 (by decide) fl_X9_12 rfl dX9_constraint_37 ?_
      refine r_getR C ck_4 f_1_2 (by decide) fl_X9_154 rfl dX9_constraint_40 ?_
      refine r_iload_n C dX9_constraint_43 rfl ?_
      obtain ⟨hi, h⟩ := ck_e h
      refine r_iald C i_4 hi dX9_constraint_44 ?_
      exact r_iret C rfl (Nat.le_of_ble_eq_true rfl) dX9_constraint_45 (re_xi h)
    · refine sw_e h (fun he1 h => ?_) (fun he1 h => ?_)
      · refine r_tinE C 40 (tgt := 46) dX9_constraint_6 he1 ⟨by decide, by decide⟩ (by decide) (by decide) ?_
        refine r_aload_n C dX9_constraint_46 rfl ?_
        refine r_getR C ck_9 f_0_0 (by decide) fl_X9_12 rfl dX9_constraint_47 ?_
        refine r_getR C ck_4 f_1_3 (by decide) fl_X9_157 rfl dX9_constraint_50 ?_
        refine r_iload_n C dX9_constraint_53 rfl ?_
        obtain ⟨hi, h⟩ := ck_e h
        refine r_iald C i_5 hi dX9_constraint_54 ?_
        exact r_iret C rfl (Nat.le_of_ble_eq_true rfl) dX9_constraint_55 (re_xi h)
      · refine sw_e h (fun he2 h => ?_) (fun he2 h => ?_)
        · refine r_tinE C 50 (tgt := 56) dX9_constraint_6 he2 ⟨by decide, by decide⟩ (by decide) (by decide) ?_
          refine r_aload_n C dX9_constraint_56 rfl ?_
          refine r_getR C ck_9 f_0_0 (by decide) fl_X9_12 rfl dX9_constraint_57 ?_
          refine r_getR C ck_4 f_1_4 (by decide) fl_X9_160 rfl dX9_constraint_60 ?_
          refine r_iload_n C dX9_constraint_63 rfl ?_
          obtain ⟨hi, h⟩ := ck_e h
          refine r_iald C i_6 hi dX9_constraint_64 ?_
          exact r_iret C rfl (Nat.le_of_ble_eq_true rfl) dX9_constraint_65 (re_xi h)
        · refine sw_e h (fun he3 h => ?_) (fun he3 h => ?_)
          · refine r_tinE C 60 (tgt := 66) dX9_constraint_6 he3 ⟨by decide, by decide⟩ (by decide) (by decide) ?_
            refine r_aload_n C dX9_constraint_66 rfl ?_
            refine r_getR C ck_9 f_0_0 (by decide) fl_X9_12 rfl dX9_constraint_67 ?_
            refine r_getR C ck_4 f_1_5 (by decide) fl_X9_144 rfl dX9_constraint_70 ?_
            refine r_iload_n C dX9_constraint_73 rfl ?_
            obtain ⟨hi, h⟩ := ck_e h
            refine r_iald C i_7 hi dX9_constraint_74 ?_
            exact r_iret C rfl (Nat.le_of_ble_eq_true rfl) dX9_constraint_75 (re_xi h)
          · refine r_tout C (tgt := 76) dX9_constraint_6 (tout 3 (by decide) (fun j hj => match j, hj with | 0, _ => he0 | 1, _ => he1 | 2, _ => he2 | 3, _ => he3)) (by decide) ?_
            exact r_throw C th_X9_128 dX9_constraint_76 dX9_constraint_79 dX9_constraint_80 dX9_constraint_83 ⟨by decide, Nat.le_of_ble_eq_true rfl, by decide⟩ (re_xe h)
  · exact r_callVx C g_X9_checkConstraint hc_9 o_0 ml_X9_138 (mX9_checkConstraint hl hI  hf3) rfl rfl (by exact Nat.le_of_ble_eq_true rfl) ⟨Nat.le_of_ble_eq_true rfl, Nat.le_of_ble_eq_true rfl, Nat.le_of_ble_eq_true rfl⟩ dX9_constraint_2 (re_xe h)
set_option maxHeartbeats 4000000 in
set_option maxRecDepth 100000 in
theorem mX9_variable {l : Launch} {D : va_G} {ad : Nat → Nat} {cy : Nat → ClassId} (hl : l.stackTraces = false) (hI : Inj ad)   {σ τ : Mem} {a1 a2 : Int32} {r : Int32 ⊕ String} (h : fX9_variable σ a1 a2 = some (r, τ)) : Co l D ad cy yX9_variable cX9_variable 3 (Option.some Jvm.ClassFile.FieldType.int) 7 172 2 [.ref (ad 0), .int a1, .int a2] σ (zx r) τ := by
  refine co_of (av := [.inr 0, .inl a1, .inl a2]) hl hI (by decide +kernel) (Nat.le_of_ble_eq_true rfl) [some (.inr 0), some (.inl a1), some (.inl a2)] rfl (fun V C => ?_)
  have C : Rl l D ad cy RX9 cX9_variable 3 (Option.some Jvm.ClassFile.FieldType.int) 7 172 2 (zx r) τ V := C
  refine r_aload_n C dX9_variable_0 rfl ?_
  refine r_iload_n C dX9_variable_1 rfl ?_
  refine bx_e h (fun v7 σ7 hf7 h => ?_) (fun e9 σ7 hf7 h => ?_)
  · refine r_callVv C g_X9_checkVariable hc_9 o_0 ml_X9_98 (mX9_checkVariable hl hI  hf7) rfl rfl (by exact Nat.le_of_ble_eq_true rfl) ⟨Nat.le_of_ble_eq_true rfl, Nat.le_of_ble_eq_true rfl, Nat.le_of_ble_eq_true rfl⟩ dX9_variable_2 ?_
    refine r_iload_n C dX9_variable_5 rfl ?_
    refine sw_e h (fun he0 h => ?_) (fun he0 h => ?_)
    · refine r_tinE C 34 (tgt := 40) dX9_variable_6 he0 ⟨by decide, by decide⟩ (by decide) (by decide) ?_
      refine r_aload_n C dX9_variable_40 rfl ?_
      refine r_getR C ck_9 f_0_0 (by decide) fl_X9_12 rfl dX9_variable_41 ?_
      refine r_getR C ck_4 f_1_0 (by decide) fl_X9_101 rfl dX9_variable_44 ?_
      refine r_iload_n C dX9_variable_47 rfl ?_
      obtain ⟨hi, h⟩ := ck_e h
      refine r_iald C i_2 hi dX9_variable_48 ?_
      exact r_iret C rfl (Nat.le_of_ble_eq_true rfl) dX9_variable_49 (re_xi h)
    · refine sw_e h (fun he1 h => ?_) (fun he1 h => ?_)
      · refine r_tinE C 44 (tgt := 50) dX9_variable_6 he1 ⟨by decide, by decide⟩ (by decide) (by decide) ?_
        refine r_aload_n C dX9_variable_50 rfl ?_
        refine r_getR C ck_9 f_0_0 (by decide) fl_X9_12 rfl dX9_variable_51 ?_
        refine r_getR C ck_4 f_1_1 (by decide) fl_X9_105 rfl dX9_variable_54 ?_
        refine r_iload_n C dX9_variable_57 rfl ?_
        obtain ⟨hi, h⟩ := ck_e h
        refine r_iald C i_3 hi dX9_variable_58 ?_
        exact r_iret C rfl (Nat.le_of_ble_eq_true rfl) dX9_variable_59 (re_xi h)
      · refine sw_e h (fun he2 h => ?_) (fun he2 h => ?_)
        · refine r_tinE C 54 (tgt := 60) dX9_variable_6 he2 ⟨by decide, by decide⟩ (by decide) (by decide) ?_
          refine r_aload_n C dX9_variable_60 rfl ?_
          refine r_getR C ck_9 f_0_4 (by decide) fl_X9_36 rfl dX9_variable_61 ?_
          refine r_getR C ck_8 f_84_0 (by decide) fl_X9_163 rfl dX9_variable_64 ?_
          refine r_iload_n C dX9_variable_67 rfl ?_
          obtain ⟨hi, h⟩ := ck_e h
          refine r_iald C i_85 hi dX9_variable_68 ?_
          exact r_iret C rfl (Nat.le_of_ble_eq_true rfl) dX9_variable_69 (re_xi h)
        · refine sw_e h (fun he3 h => ?_) (fun he3 h => ?_)
          · refine r_tinE C 64 (tgt := 70) dX9_variable_6 he3 ⟨by decide, by decide⟩ (by decide) (by decide) ?_
            refine r_aload_n C dX9_variable_70 rfl ?_
            refine r_getR C ck_9 f_0_0 (by decide) fl_X9_12 rfl dX9_variable_71 ?_
            refine r_iload_n C dX9_variable_74 rfl ?_
            refine bd_e h (fun v8 σ8 hf8 h => ?_)
            refine r_callVi C g_X4_conflictOf hc_4 o_1 ml_X9_166 (mX4_conflictOf hl hI  hf8) rfl rfl (by exact Nat.le_of_ble_eq_true rfl) ⟨Nat.le_of_ble_eq_true rfl, Nat.le_of_ble_eq_true rfl, Nat.le_of_ble_eq_true rfl⟩ dX9_variable_75 ?_
            exact r_iret C rfl (Nat.le_of_ble_eq_true rfl) dX9_variable_78 (re_xi h)
          · refine sw_e h (fun he4 h => ?_) (fun he4 h => ?_)
            · refine r_tinE C 73 (tgt := 79) dX9_variable_6 he4 ⟨by decide, by decide⟩ (by decide) (by decide) ?_
              refine r_aload_n C dX9_variable_79 rfl ?_
              refine r_getR C ck_9 f_0_0 (by decide) fl_X9_12 rfl dX9_variable_80 ?_
              refine r_iload_n C dX9_variable_83 rfl ?_
              refine bd_e h (fun v9 σ9 hf9 h => ?_)
              refine r_callVi C g_X4_membershipsOf hc_4 o_1 ml_X9_169 (mX4_membershipsOf hl hI  hf9) rfl rfl (by exact Nat.le_of_ble_eq_true rfl) ⟨Nat.le_of_ble_eq_true rfl, Nat.le_of_ble_eq_true rfl, Nat.le_of_ble_eq_true rfl⟩ dX9_variable_84 ?_
              exact r_iret C rfl (Nat.le_of_ble_eq_true rfl) dX9_variable_87 (re_xi h)
            · refine r_tout C (tgt := 88) dX9_variable_6 (tout 4 (by decide) (fun j hj => match j, hj with | 0, _ => he0 | 1, _ => he1 | 2, _ => he2 | 3, _ => he3 | 4, _ => he4)) (by decide) ?_
              exact r_throw C th_X9_128 dX9_variable_88 dX9_variable_91 dX9_variable_92 dX9_variable_95 ⟨by decide, Nat.le_of_ble_eq_true rfl, by decide⟩ (re_xe h)
  · exact r_callVx C g_X9_checkVariable hc_9 o_0 ml_X9_98 (mX9_checkVariable hl hI  hf7) rfl rfl (by exact Nat.le_of_ble_eq_true rfl) ⟨Nat.le_of_ble_eq_true rfl, Nat.le_of_ble_eq_true rfl, Nat.le_of_ble_eq_true rfl⟩ dX9_variable_2 (re_xe h)
set_option maxHeartbeats 4000000 in
set_option maxRecDepth 100000 in
theorem mX9_cost {l : Launch} {D : va_G} {ad : Nat → Nat} {cy : Nat → ClassId} (hl : l.stackTraces = false) (hI : Inj ad)   {σ τ : Mem} {r : Int32} (h : fX9_cost σ = some (r, τ)) : Co l D ad cy yX9_cost cX9_cost 1 (Option.some Jvm.ClassFile.FieldType.int) 5 192 0 [.ref (ad 0)] σ (zi r) τ := by
  refine co_of (av := [.inr 0]) hl hI (by decide +kernel) (Nat.le_of_ble_eq_true rfl) [some (.inr 0)] rfl (fun V C => ?_)
  have C : Rl l D ad cy RX9 cX9_cost 1 (Option.some Jvm.ClassFile.FieldType.int) 5 192 0 (zi r) τ V := C
  refine r_aload_n C dX9_cost_0 rfl ?_
  refine r_getR C ck_9 f_0_0 (by decide) fl_X9_12 rfl dX9_cost_1 ?_
  refine bd_e h (fun v3 σ3 hf3 h => ?_)
  refine r_callVi C g_X4_presentCost hc_4 o_1 ml_X9_172 (mX4_presentCost hl hI  hf3) rfl rfl (by exact Nat.le_of_ble_eq_true rfl) ⟨Nat.le_of_ble_eq_true rfl, Nat.le_of_ble_eq_true rfl, Nat.le_of_ble_eq_true rfl⟩ dX9_cost_4 ?_
  exact r_iret C rfl (Nat.le_of_ble_eq_true rfl) dX9_cost_7 (re_i h)
set_option maxHeartbeats 4000000 in
set_option maxRecDepth 100000 in
theorem mX9_bestCost {l : Launch} {D : va_G} {ad : Nat → Nat} {cy : Nat → ClassId} (hl : l.stackTraces = false) (hI : Inj ad)   {σ τ : Mem} {r : Int32} (h : fX9_bestCost σ = some (r, τ)) : Co l D ad cy yX9_bestCost cX9_bestCost 1 (Option.some Jvm.ClassFile.FieldType.int) 1 100 0 [.ref (ad 0)] σ (zi r) τ := by
  refine co_of (av := [.inr 0]) hl hI (by decide +kernel) (Nat.le_of_ble_eq_true rfl) [some (.inr 0)] rfl (fun V C => ?_)
  have C : Rl l D ad cy RX9 cX9_bestCost 1 (Option.some Jvm.ClassFile.FieldType.int) 1 100 0 (zi r) τ V := C
  refine r_aload_n C dX9_bestCost_0 rfl ?_
  refine r_getR C ck_9 f_0_4 (by decide) fl_X9_36 rfl dX9_bestCost_1 ?_
  refine r_getI C ck_8 f_84_5 (by decide) fl_X9_175 rfl dX9_bestCost_4 ?_
  exact r_iret C rfl (Nat.le_of_ble_eq_true rfl) dX9_bestCost_7 (re_i h)
set_option maxHeartbeats 4000000 in
set_option maxRecDepth 100000 in
theorem mX9_violation {l : Launch} {D : va_G} {ad : Nat → Nat} {cy : Nat → ClassId} (hl : l.stackTraces = false) (hI : Inj ad)   {σ τ : Mem} {a1 a2 : Int32} {r : Int32 ⊕ String} (h : fX9_violation σ a1 a2 = some (r, τ)) : Co l D ad cy yX9_violation cX9_violation 3 (Option.some Jvm.ClassFile.FieldType.int) 7 149 1 [.ref (ad 0), .int a1, .int a2] σ (zx r) τ := by
  refine co_of (av := [.inr 0, .inl a1, .inl a2]) hl hI (by decide +kernel) (Nat.le_of_ble_eq_true rfl) [some (.inr 0), some (.inl a1), some (.inl a2)] rfl (fun V C => ?_)
  have C : Rl l D ad cy RX9 cX9_violation 3 (Option.some Jvm.ClassFile.FieldType.int) 7 149 1 (zx r) τ V := C
  have L31 : ∀ (p2 : Nat) (hp2 : isI 0 10 p2), ∀ (σ : Mem) (s1 : Int32), fX9_violation_L31  p2 σ s1 = some (r, τ) → V 1 σ 31 [none, none, none] [.ref (ad p2), .int s1, .ref (ad 1)] := by
    intro p2 hp2 σ s1 h
    refine bd_e h (fun v6 σ6 hf6 h => ?_)
    refine r_callVi C g_X4_violationIn hc_4 o_1 ml_X9_178 (mX4_violationIn hl hI hp2 hf6) rfl rfl (by exact Nat.le_of_ble_eq_true rfl) ⟨Nat.le_of_ble_eq_true rfl, Nat.le_of_ble_eq_true rfl, Nat.le_of_ble_eq_true rfl⟩ dX9_violation_31 ?_
    exact r_iret C rfl (Nat.le_of_ble_eq_true rfl) dX9_violation_34 (re_xi h)
  refine r_aload_n C dX9_violation_0 rfl ?_
  refine r_iload_n C dX9_violation_1 rfl ?_
  refine bx_e h (fun v7 σ7 hf7 h => ?_) (fun e9 σ7 hf7 h => ?_)
  · refine r_callVv C g_X9_checkConstraint hc_9 o_0 ml_X9_138 (mX9_checkConstraint hl hI  hf7) rfl rfl (by exact Nat.le_of_ble_eq_true rfl) ⟨Nat.le_of_ble_eq_true rfl, Nat.le_of_ble_eq_true rfl, Nat.le_of_ble_eq_true rfl⟩ dX9_violation_2 ?_
    refine r_aload_n C dX9_violation_5 rfl ?_
    refine r_getR C ck_9 f_0_0 (by decide) fl_X9_12 rfl dX9_violation_6 ?_
    refine r_iload_n C dX9_violation_9 rfl ?_
    refine r_iload_n C dX9_violation_10 rfl ?_
    refine r_if_eq C (tgt := 24) h (by decide) dX9_violation_11 (fun hc h => ?_) (fun hc h => ?_)
    · refine r_aload_n C dX9_violation_24 rfl ?_
      refine r_getR C ck_9 f_0_0 (by decide) fl_X9_12 rfl dX9_violation_25 ?_
      refine r_getR C ck_4 f_1_1 (by decide) fl_X9_105 rfl dX9_violation_28 ?_
      refine r_weak C [none, none, none] trivial ?_
      exact L31 _ i_3 _ _ h
    · refine r_aload_n C dX9_violation_14 rfl ?_
      refine r_getR C ck_9 f_0_4 (by decide) fl_X9_36 rfl dX9_violation_15 ?_
      refine r_getR C ck_8 f_84_0 (by decide) fl_X9_163 rfl dX9_violation_18 ?_
      refine r_goto C (tgt := 31) (by decide) dX9_violation_21 ?_
      refine r_weak C [none, none, none] trivial ?_
      exact L31 _ i_85 _ _ h
  · exact r_callVx C g_X9_checkConstraint hc_9 o_0 ml_X9_138 (mX9_checkConstraint hl hI  hf7) rfl rfl (by exact Nat.le_of_ble_eq_true rfl) ⟨Nat.le_of_ble_eq_true rfl, Nat.le_of_ble_eq_true rfl, Nat.le_of_ble_eq_true rfl⟩ dX9_violation_2 (re_xe h)
set_option maxHeartbeats 4000000 in
set_option maxRecDepth 100000 in
theorem mX9_mostBlamed {l : Launch} {D : va_G} {ad : Nat → Nat} {cy : Nat → ClassId} (hl : l.stackTraces = false) (hI : Inj ad)   {σ τ : Mem} {r : Int32 ⊕ String} (h : fX9_mostBlamed σ = some (r, τ)) : Co l D ad cy yX9_mostBlamed cX9_mostBlamed 5 (Option.some Jvm.ClassFile.FieldType.int) 6 172 1 [.ref (ad 0)] σ (zx r) τ := by
  refine co_of (av := [.inr 0]) hl hI (by decide +kernel) (Nat.le_of_ble_eq_true rfl) [some (.inr 0), none, none, none, none] rfl (fun V C => ?_)
  have C : Rl l D ad cy RX9 cX9_mostBlamed 5 (Option.some Jvm.ClassFile.FieldType.int) 6 172 1 (zx r) τ V := C
  have L6 : ∀ (n : Nat) (σ : Mem) (l1 l2 l3 : Int32), fX9_mostBlamed_L6  n σ l1 l2 l3 = some (r, τ) → V 0 σ 6 [some (.inr 0), some (.inl l1), some (.inl l2), some (.inl l3), none] [] := by
    intro n6
    induction n6 with
    | zero => intro σ l1 l2 l3 h; exact no_e h
    | succ n6 ih6 =>
      have L38 : ∀ (σ : Mem) (l1 l2 l3 : Int32), fX9_mostBlamed_L38 (fX9_mostBlamed_L6  n6)  σ l1 l2 l3 = some (r, τ) → V 0 σ 38 [some (.inr 0), some (.inl l1), some (.inl l2), some (.inl l3), none] [] := by
        intro  σ l1 l2 l3 h
        refine r_iinc C ic_1 (by decide) dX9_mostBlamed_38 rfl ?_
        refine r_goto C (tgt := 6) (by decide) dX9_mostBlamed_41 ?_
        exact ih6 _ _ _ _ h
      intro σ l1 l2 l3 h
      have h : fX9_mostBlamed_B6  (fX9_mostBlamed_L6  n6) σ l1 l2 l3 = some (r, τ) := h
      refine r_iload_n C dX9_mostBlamed_6 rfl ?_
      refine r_aload_n C dX9_mostBlamed_7 rfl ?_
      refine r_getR C ck_9 f_0_0 (by decide) fl_X9_12 rfl dX9_mostBlamed_8 ?_
      refine r_getI C ck_4 f_1_7 (by decide) fl_X9_69 rfl dX9_mostBlamed_11 ?_
      refine r_ic_ge C (tgt := 44) h (by decide) dX9_mostBlamed_14 (fun hc h => ?_) (fun hc h => ?_)
      · refine r_iload_n C dX9_mostBlamed_44 rfl ?_
        refine r_iconst C ic_m1 dX9_mostBlamed_45 ?_
        refine r_ic_ne C (tgt := 57) h (by decide) dX9_mostBlamed_46 (fun hc h => ?_) (fun hc h => ?_)
        · refine r_iload_n C dX9_mostBlamed_57 rfl ?_
          exact r_iret C rfl (Nat.le_of_ble_eq_true rfl) dX9_mostBlamed_58 (re_xi h)
        · exact r_throw C th_X9_182 dX9_mostBlamed_49 dX9_mostBlamed_52 dX9_mostBlamed_53 dX9_mostBlamed_56 ⟨by decide, Nat.le_of_ble_eq_true rfl, by decide⟩ (re_xe h)
      · refine r_aload_n C dX9_mostBlamed_17 rfl ?_
        refine r_getR C ck_9 f_0_0 (by decide) fl_X9_12 rfl dX9_mostBlamed_18 ?_
        refine r_iload_n C dX9_mostBlamed_21 rfl ?_
        refine bd_e h (fun v3 σ3 hf3 h => ?_)
        refine r_callVi C g_X4_conflictOf hc_4 o_1 ml_X9_166 (mX4_conflictOf hl hI  hf3) rfl rfl (by exact Nat.le_of_ble_eq_true rfl) ⟨Nat.le_of_ble_eq_true rfl, Nat.le_of_ble_eq_true rfl, Nat.le_of_ble_eq_true rfl⟩ dX9_mostBlamed_22 ?_
        refine r_istore C (by decide) dX9_mostBlamed_25 ?_
        refine r_iload C dX9_mostBlamed_27 rfl ?_
        refine r_iload_n C dX9_mostBlamed_29 rfl ?_
        refine r_ic_le C (tgt := 38) h (by decide) dX9_mostBlamed_30 (fun hc h => ?_) (fun hc h => ?_)
        · refine r_weak C [some (.inr 0), some (.inl l1), some (.inl l2), some (.inl l3), none] ⟨rfl, ⟨rfl, ⟨rfl, ⟨rfl, trivial⟩⟩⟩⟩ ?_
          exact L38 _ _ _ _ h
        · refine r_iload_n C dX9_mostBlamed_33 rfl ?_
          refine r_istore_n C (by decide) dX9_mostBlamed_34 ?_
          refine r_iload C dX9_mostBlamed_35 rfl ?_
          refine r_istore_n C (by decide) dX9_mostBlamed_37 ?_
          refine r_weak C [some (.inr 0), some (.inl l3), some (.inl v3), some (.inl l3), none] ⟨rfl, ⟨rfl, ⟨rfl, ⟨rfl, trivial⟩⟩⟩⟩ ?_
          exact L38 _ _ _ _ h
  refine r_iconst C ic_m1 dX9_mostBlamed_0 ?_
  refine r_istore_n C (by decide) dX9_mostBlamed_1 ?_
  refine r_iconst C ic_0 dX9_mostBlamed_2 ?_
  refine r_istore_n C (by decide) dX9_mostBlamed_3 ?_
  refine r_iconst C ic_0 dX9_mostBlamed_4 ?_
  refine r_istore_n C (by decide) dX9_mostBlamed_5 ?_
  exact L6 FU _ _ _ _ h
set_option maxHeartbeats 4000000 in
set_option maxRecDepth 100000 in
theorem mX9_relief {l : Launch} {D : va_G} {ad : Nat → Nat} {cy : Nat → ClassId} (hl : l.stackTraces = false) (hI : Inj ad)   {σ τ : Mem} {a1 : Int32} {r : Int32 ⊕ String} (h : fX9_relief σ a1 = some (r, τ)) : Co l D ad cy yX9_relief cX9_relief 2 (Option.some Jvm.ClassFile.FieldType.int) 7 216 1 [.ref (ad 0), .int a1] σ (zx r) τ := by
  refine co_of (av := [.inr 0, .inl a1]) hl hI (by decide +kernel) (Nat.le_of_ble_eq_true rfl) [some (.inr 0), some (.inl a1)] rfl (fun V C => ?_)
  have C : Rl l D ad cy RX9 cX9_relief 2 (Option.some Jvm.ClassFile.FieldType.int) 7 216 1 (zx r) τ V := C
  refine r_aload_n C dX9_relief_0 rfl ?_
  refine r_iload_n C dX9_relief_1 rfl ?_
  refine bx_e h (fun v5 σ5 hf5 h => ?_) (fun e9 σ5 hf5 h => ?_)
  · refine r_callVv C g_X9_checkVariable hc_9 o_0 ml_X9_98 (mX9_checkVariable hl hI  hf5) rfl rfl (by exact Nat.le_of_ble_eq_true rfl) ⟨Nat.le_of_ble_eq_true rfl, Nat.le_of_ble_eq_true rfl, Nat.le_of_ble_eq_true rfl⟩ dX9_relief_2 ?_
    refine r_aload_n C dX9_relief_5 rfl ?_
    refine r_getR C ck_9 f_0_4 (by decide) fl_X9_36 rfl dX9_relief_6 ?_
    refine r_aload_n C dX9_relief_9 rfl ?_
    refine r_getR C ck_9 f_0_0 (by decide) fl_X9_12 rfl dX9_relief_10 ?_
    refine r_iload_n C dX9_relief_13 rfl ?_
    refine bd_e h (fun v6 σ6 hf6 h => ?_)
    refine r_callVi C g_X8_reliefOf hc_8 o_84 ml_X9_185 (mX8_reliefOf hl hI  hf6) rfl rfl (by exact Nat.le_of_ble_eq_true rfl) ⟨Nat.le_of_ble_eq_true rfl, Nat.le_of_ble_eq_true rfl, Nat.le_of_ble_eq_true rfl⟩ dX9_relief_14 ?_
    exact r_iret C rfl (Nat.le_of_ble_eq_true rfl) dX9_relief_17 (re_xi h)
  · exact r_callVx C g_X9_checkVariable hc_9 o_0 ml_X9_98 (mX9_checkVariable hl hI  hf5) rfl rfl (by exact Nat.le_of_ble_eq_true rfl) ⟨Nat.le_of_ble_eq_true rfl, Nat.le_of_ble_eq_true rfl, Nat.le_of_ble_eq_true rfl⟩ dX9_relief_2 (re_xe h)
set_option maxHeartbeats 4000000 in
set_option maxRecDepth 100000 in
theorem mX9_takeBest {l : Launch} {D : va_G} {ad : Nat → Nat} {cy : Nat → ClassId} (hl : l.stackTraces = false) (hI : Inj ad)   {σ τ : Mem} {r : Int32} (h : fX9_takeBest σ = some (r, τ)) : Co l D ad cy yX9_takeBest cX9_takeBest 2 (Option.some Jvm.ClassFile.FieldType.int) 5 192 0 [.ref (ad 0)] σ (zi r) τ := by
  refine co_of (av := [.inr 0]) hl hI (by decide +kernel) (Nat.le_of_ble_eq_true rfl) [some (.inr 0), none] rfl (fun V C => ?_)
  have C : Rl l D ad cy RX9 cX9_takeBest 2 (Option.some Jvm.ClassFile.FieldType.int) 5 192 0 (zi r) τ V := C
  refine r_aload_n C dX9_takeBest_0 rfl ?_
  refine r_getR C ck_9 f_0_0 (by decide) fl_X9_12 rfl dX9_takeBest_1 ?_
  refine bd_e h (fun v7 σ7 hf7 h => ?_)
  refine r_callVi C g_X4_presentCost hc_4 o_1 ml_X9_172 (mX4_presentCost hl hI  hf7) rfl rfl (by exact Nat.le_of_ble_eq_true rfl) ⟨Nat.le_of_ble_eq_true rfl, Nat.le_of_ble_eq_true rfl, Nat.le_of_ble_eq_true rfl⟩ dX9_takeBest_4 ?_
  refine r_istore_n C (by decide) dX9_takeBest_7 ?_
  refine r_aload_n C dX9_takeBest_8 rfl ?_
  refine r_getR C ck_9 f_0_0 (by decide) fl_X9_12 rfl dX9_takeBest_9 ?_
  refine r_aload_n C dX9_takeBest_12 rfl ?_
  refine r_getR C ck_9 f_0_4 (by decide) fl_X9_36 rfl dX9_takeBest_13 ?_
  refine r_getR C ck_8 f_84_0 (by decide) fl_X9_163 rfl dX9_takeBest_16 ?_
  refine bv_e h (fun σ8 hf8 h => ?_)
  refine r_callVv C g_X4_takeValues hc_4 o_1 ml_X9_189 (mX4_takeValues hl hI i_85 hf8) rfl rfl (by exact Nat.le_of_ble_eq_true rfl) ⟨Nat.le_of_ble_eq_true rfl, Nat.le_of_ble_eq_true rfl, Nat.le_of_ble_eq_true rfl⟩ dX9_takeBest_19 ?_
  refine r_iload_n C dX9_takeBest_22 rfl ?_
  refine r_aload_n C dX9_takeBest_23 rfl ?_
  refine r_getR C ck_9 f_0_0 (by decide) fl_X9_12 rfl dX9_takeBest_24 ?_
  refine bd_e h (fun v9 σ9 hf9 h => ?_)
  refine r_callVi C g_X4_presentCost hc_4 o_1 ml_X9_172 (mX4_presentCost hl hI  hf9) rfl rfl (by exact Nat.le_of_ble_eq_true rfl) ⟨Nat.le_of_ble_eq_true rfl, Nat.le_of_ble_eq_true rfl, Nat.le_of_ble_eq_true rfl⟩ dX9_takeBest_27 ?_
  refine r_isub C dX9_takeBest_30 ?_
  exact r_iret C rfl (Nat.le_of_ble_eq_true rfl) dX9_takeBest_31 (re_i h)
set_option maxHeartbeats 4000000 in
set_option maxRecDepth 100000 in
theorem mX9_setNeighborhood {l : Launch} {D : va_G} {ad : Nat → Nat} {cy : Nat → ClassId} (hl : l.stackTraces = false) (hI : Inj ad)   {σ τ : Mem} {a1 : Int32} {r : Int32 ⊕ String} (h : fX9_setNeighborhood σ a1 = some (r, τ)) : Co l D ad cy yX9_setNeighborhood cX9_setNeighborhood 3 (Option.some Jvm.ClassFile.FieldType.int) 7 122 1 [.ref (ad 0), .int a1] σ (zx r) τ := by
  refine co_of (av := [.inr 0, .inl a1]) hl hI (by decide +kernel) (Nat.le_of_ble_eq_true rfl) [some (.inr 0), some (.inl a1), none] rfl (fun V C => ?_)
  have C : Rl l D ad cy RX9 cX9_setNeighborhood 3 (Option.some Jvm.ClassFile.FieldType.int) 7 122 1 (zx r) τ V := C
  refine r_iload_n C dX9_setNeighborhood_0 rfl ?_
  refine r_iconst C ic_0 dX9_setNeighborhood_1 ?_
  refine r_bipush C bp_15 dX9_setNeighborhood_2 ?_
  refine bx_e h (fun v5 σ5 hf5 h => ?_) (fun e9 σ5 hf5 h => ?_)
  · refine r_callSv C g_X9_checkRange ml_X9_114 (mX9_checkRange hl hI  hf5) rfl rfl (by exact Nat.le_of_ble_eq_true rfl) ⟨Nat.le_of_ble_eq_true rfl, Nat.le_of_ble_eq_true rfl, Nat.le_of_ble_eq_true rfl⟩ dX9_setNeighborhood_4 ?_
    refine r_aload_n C dX9_setNeighborhood_7 rfl ?_
    refine r_getR C ck_9 f_0_3 (by decide) fl_X9_29 rfl dX9_setNeighborhood_8 ?_
    refine r_getI C ck_5 f_83_0 (by decide) fl_X9_193 rfl dX9_setNeighborhood_11 ?_
    refine r_istore_n C (by decide) dX9_setNeighborhood_14 ?_
    refine r_aload_n C dX9_setNeighborhood_15 rfl ?_
    refine r_getR C ck_9 f_0_3 (by decide) fl_X9_29 rfl dX9_setNeighborhood_16 ?_
    refine r_iload_n C dX9_setNeighborhood_19 rfl ?_
    refine r_putI C ck_5 f_83_0 (by decide) fl_X9_193 rfl rfl rfl rfl rfl dX9_setNeighborhood_20 h (fun σ6 h => ?_)
    refine r_iload_n C dX9_setNeighborhood_23 rfl ?_
    exact r_iret C rfl (Nat.le_of_ble_eq_true rfl) dX9_setNeighborhood_24 (re_xi h)
  · exact r_callSx C g_X9_checkRange ml_X9_114 (mX9_checkRange hl hI  hf5) rfl rfl (by exact Nat.le_of_ble_eq_true rfl) ⟨Nat.le_of_ble_eq_true rfl, Nat.le_of_ble_eq_true rfl, Nat.le_of_ble_eq_true rfl⟩ dX9_setNeighborhood_4 (re_xe h)
set_option maxHeartbeats 4000000 in
set_option maxRecDepth 100000 in
theorem mX9_setTenure {l : Launch} {D : va_G} {ad : Nat → Nat} {cy : Nat → ClassId} (hl : l.stackTraces = false) (hI : Inj ad)   {σ τ : Mem} {a1 : Int32} {r : Int32 ⊕ String} (h : fX9_setTenure σ a1 = some (r, τ)) : Co l D ad cy yX9_setTenure cX9_setTenure 3 (Option.some Jvm.ClassFile.FieldType.int) 7 122 1 [.ref (ad 0), .int a1] σ (zx r) τ := by
  refine co_of (av := [.inr 0, .inl a1]) hl hI (by decide +kernel) (Nat.le_of_ble_eq_true rfl) [some (.inr 0), some (.inl a1), none] rfl (fun V C => ?_)
  have C : Rl l D ad cy RX9 cX9_setTenure 3 (Option.some Jvm.ClassFile.FieldType.int) 7 122 1 (zx r) τ V := C
  refine r_iload_n C dX9_setTenure_0 rfl ?_
  refine r_iconst C ic_0 dX9_setTenure_1 ?_
  refine r_bipush C bp_20 dX9_setTenure_2 ?_
  refine bx_e h (fun v5 σ5 hf5 h => ?_) (fun e9 σ5 hf5 h => ?_)
  · refine r_callSv C g_X9_checkRange ml_X9_114 (mX9_checkRange hl hI  hf5) rfl rfl (by exact Nat.le_of_ble_eq_true rfl) ⟨Nat.le_of_ble_eq_true rfl, Nat.le_of_ble_eq_true rfl, Nat.le_of_ble_eq_true rfl⟩ dX9_setTenure_4 ?_
    refine r_aload_n C dX9_setTenure_7 rfl ?_
    refine r_getR C ck_9 f_0_3 (by decide) fl_X9_29 rfl dX9_setTenure_8 ?_
    refine r_getI C ck_5 f_83_1 (by decide) fl_X9_195 rfl dX9_setTenure_11 ?_
    refine r_istore_n C (by decide) dX9_setTenure_14 ?_
    refine r_aload_n C dX9_setTenure_15 rfl ?_
    refine r_getR C ck_9 f_0_3 (by decide) fl_X9_29 rfl dX9_setTenure_16 ?_
    refine r_iload_n C dX9_setTenure_19 rfl ?_
    refine r_putI C ck_5 f_83_1 (by decide) fl_X9_195 rfl rfl rfl rfl rfl dX9_setTenure_20 h (fun σ6 h => ?_)
    refine r_iload_n C dX9_setTenure_23 rfl ?_
    exact r_iret C rfl (Nat.le_of_ble_eq_true rfl) dX9_setTenure_24 (re_xi h)
  · exact r_callSx C g_X9_checkRange ml_X9_114 (mX9_checkRange hl hI  hf5) rfl rfl (by exact Nat.le_of_ble_eq_true rfl) ⟨Nat.le_of_ble_eq_true rfl, Nat.le_of_ble_eq_true rfl, Nat.le_of_ble_eq_true rfl⟩ dX9_setTenure_4 (re_xe h)
set_option maxHeartbeats 4000000 in
set_option maxRecDepth 100000 in
theorem mX9_setPatience {l : Launch} {D : va_G} {ad : Nat → Nat} {cy : Nat → ClassId} (hl : l.stackTraces = false) (hI : Inj ad)   {σ τ : Mem} {a1 : Int32} {r : Int32 ⊕ String} (h : fX9_setPatience σ a1 = some (r, τ)) : Co l D ad cy yX9_setPatience cX9_setPatience 3 (Option.some Jvm.ClassFile.FieldType.int) 7 122 1 [.ref (ad 0), .int a1] σ (zx r) τ := by
  refine co_of (av := [.inr 0, .inl a1]) hl hI (by decide +kernel) (Nat.le_of_ble_eq_true rfl) [some (.inr 0), some (.inl a1), none] rfl (fun V C => ?_)
  have C : Rl l D ad cy RX9 cX9_setPatience 3 (Option.some Jvm.ClassFile.FieldType.int) 7 122 1 (zx r) τ V := C
  refine r_iload_n C dX9_setPatience_0 rfl ?_
  refine r_iconst C ic_1 dX9_setPatience_1 ?_
  refine r_bipush C bp_100 dX9_setPatience_2 ?_
  refine bx_e h (fun v5 σ5 hf5 h => ?_) (fun e9 σ5 hf5 h => ?_)
  · refine r_callSv C g_X9_checkRange ml_X9_114 (mX9_checkRange hl hI  hf5) rfl rfl (by exact Nat.le_of_ble_eq_true rfl) ⟨Nat.le_of_ble_eq_true rfl, Nat.le_of_ble_eq_true rfl, Nat.le_of_ble_eq_true rfl⟩ dX9_setPatience_4 ?_
    refine r_aload_n C dX9_setPatience_7 rfl ?_
    refine r_getR C ck_9 f_0_3 (by decide) fl_X9_29 rfl dX9_setPatience_8 ?_
    refine r_getI C ck_5 f_83_2 (by decide) fl_X9_198 rfl dX9_setPatience_11 ?_
    refine r_istore_n C (by decide) dX9_setPatience_14 ?_
    refine r_aload_n C dX9_setPatience_15 rfl ?_
    refine r_getR C ck_9 f_0_3 (by decide) fl_X9_29 rfl dX9_setPatience_16 ?_
    refine r_iload_n C dX9_setPatience_19 rfl ?_
    refine r_putI C ck_5 f_83_2 (by decide) fl_X9_198 rfl rfl rfl rfl rfl dX9_setPatience_20 h (fun σ6 h => ?_)
    refine r_iload_n C dX9_setPatience_23 rfl ?_
    exact r_iret C rfl (Nat.le_of_ble_eq_true rfl) dX9_setPatience_24 (re_xi h)
  · exact r_callSx C g_X9_checkRange ml_X9_114 (mX9_checkRange hl hI  hf5) rfl rfl (by exact Nat.le_of_ble_eq_true rfl) ⟨Nat.le_of_ble_eq_true rfl, Nat.le_of_ble_eq_true rfl, Nat.le_of_ble_eq_true rfl⟩ dX9_setPatience_4 (re_xe h)
set_option maxHeartbeats 4000000 in
set_option maxRecDepth 100000 in
theorem mX9_setSeed {l : Launch} {D : va_G} {ad : Nat → Nat} {cy : Nat → ClassId} (hl : l.stackTraces = false) (hI : Inj ad)   {σ τ : Mem} {a1 : Int32} {r : Int32 ⊕ String} (h : fX9_setSeed σ a1 = some (r, τ)) : Co l D ad cy yX9_setSeed cX9_setSeed 3 (Option.some Jvm.ClassFile.FieldType.int) 7 122 1 [.ref (ad 0), .int a1] σ (zx r) τ := by
  refine co_of (av := [.inr 0, .inl a1]) hl hI (by decide +kernel) (Nat.le_of_ble_eq_true rfl) [some (.inr 0), some (.inl a1), none] rfl (fun V C => ?_)
  have C : Rl l D ad cy RX9 cX9_setSeed 3 (Option.some Jvm.ClassFile.FieldType.int) 7 122 1 (zx r) τ V := C
  refine r_iload_n C dX9_setSeed_0 rfl ?_
  refine r_iconst C ic_0 dX9_setSeed_1 ?_
  refine r_ldc C kc_X9_201 dX9_setSeed_2 ?_
  refine bx_e h (fun v5 σ5 hf5 h => ?_) (fun e9 σ5 hf5 h => ?_)
  · refine r_callSv C g_X9_checkRange ml_X9_114 (mX9_checkRange hl hI  hf5) rfl rfl (by exact Nat.le_of_ble_eq_true rfl) ⟨Nat.le_of_ble_eq_true rfl, Nat.le_of_ble_eq_true rfl, Nat.le_of_ble_eq_true rfl⟩ dX9_setSeed_4 ?_
    refine r_aload_n C dX9_setSeed_7 rfl ?_
    refine r_getR C ck_9 f_0_3 (by decide) fl_X9_29 rfl dX9_setSeed_8 ?_
    refine r_getI C ck_5 f_83_3 (by decide) fl_X9_202 rfl dX9_setSeed_11 ?_
    refine r_istore_n C (by decide) dX9_setSeed_14 ?_
    refine r_aload_n C dX9_setSeed_15 rfl ?_
    refine r_getR C ck_9 f_0_3 (by decide) fl_X9_29 rfl dX9_setSeed_16 ?_
    refine r_iload_n C dX9_setSeed_19 rfl ?_
    refine r_putI C ck_5 f_83_3 (by decide) fl_X9_202 rfl rfl rfl rfl rfl dX9_setSeed_20 h (fun σ6 h => ?_)
    refine r_iload_n C dX9_setSeed_23 rfl ?_
    exact r_iret C rfl (Nat.le_of_ble_eq_true rfl) dX9_setSeed_24 (re_xi h)
  · exact r_callSx C g_X9_checkRange ml_X9_114 (mX9_checkRange hl hI  hf5) rfl rfl (by exact Nat.le_of_ble_eq_true rfl) ⟨Nat.le_of_ble_eq_true rfl, Nat.le_of_ble_eq_true rfl, Nat.le_of_ble_eq_true rfl⟩ dX9_setSeed_4 (re_xe h)
set_option maxHeartbeats 4000000 in
set_option maxRecDepth 100000 in
theorem mX9_moves {l : Launch} {D : va_G} {ad : Nat → Nat} {cy : Nat → ClassId} (hl : l.stackTraces = false) (hI : Inj ad)   {σ τ : Mem} {a1 : Int32} {r : Int32} (h : fX9_moves σ a1 = some (r, τ)) : Co l D ad cy yX9_moves cX9_moves 2 (Option.some Jvm.ClassFile.FieldType.int) 6 217 0 [.ref (ad 0), .int a1] σ (zi r) τ := by
  refine co_of (av := [.inr 0, .inl a1]) hl hI (by decide +kernel) (Nat.le_of_ble_eq_true rfl) [some (.inr 0), some (.inl a1)] rfl (fun V C => ?_)
  have C : Rl l D ad cy RX9 cX9_moves 2 (Option.some Jvm.ClassFile.FieldType.int) 6 217 0 (zi r) τ V := C
  refine r_aload_n C dX9_moves_0 rfl ?_
  refine r_getR C ck_9 f_0_4 (by decide) fl_X9_36 rfl dX9_moves_1 ?_
  refine r_getR C ck_8 f_84_3 (by decide) fl_X9_205 rfl dX9_moves_4 ?_
  refine r_aload_n C dX9_moves_7 rfl ?_
  refine r_getR C ck_9 f_0_0 (by decide) fl_X9_12 rfl dX9_moves_8 ?_
  refine r_aload_n C dX9_moves_11 rfl ?_
  refine r_getR C ck_9 f_0_3 (by decide) fl_X9_29 rfl dX9_moves_12 ?_
  refine r_getI C ck_5 f_83_0 (by decide) fl_X9_193 rfl dX9_moves_15 ?_
  refine bv_e h (fun σ5 hf5 h => ?_)
  refine r_callVv C g_X3_fill hc_3 o_98 ml_X9_209 (mX3_fill hl hI  hf5) rfl rfl (by exact Nat.le_of_ble_eq_true rfl) ⟨Nat.le_of_ble_eq_true rfl, Nat.le_of_ble_eq_true rfl, Nat.le_of_ble_eq_true rfl⟩ dX9_moves_18 ?_
  refine r_iload_n C dX9_moves_21 rfl ?_
  refine r_if_eq C (tgt := 39) h (by decide) dX9_moves_22 (fun hc h => ?_) (fun hc h => ?_)
  · refine r_aload_n C dX9_moves_39 rfl ?_
    refine r_getR C ck_9 f_0_4 (by decide) fl_X9_36 rfl dX9_moves_40 ?_
    refine r_getR C ck_8 f_84_3 (by decide) fl_X9_205 rfl dX9_moves_43 ?_
    refine r_getI C ck_3 f_98_1 (by decide) fl_X9_219 rfl dX9_moves_46 ?_
    exact r_iret C rfl (Nat.le_of_ble_eq_true rfl) dX9_moves_49 (re_i h)
  · refine r_aload_n C dX9_moves_25 rfl ?_
    refine r_getR C ck_9 f_0_4 (by decide) fl_X9_36 rfl dX9_moves_26 ?_
    refine r_aload_n C dX9_moves_29 rfl ?_
    refine r_getR C ck_9 f_0_0 (by decide) fl_X9_12 rfl dX9_moves_30 ?_
    refine bd_e h (fun v6 σ6 hf6 h => ?_)
    refine r_callVi C g_X8_heldMoves hc_8 o_84 ml_X9_215 (mX8_heldMoves hl hI  hf6) rfl rfl (by exact Nat.le_of_ble_eq_true rfl) ⟨Nat.le_of_ble_eq_true rfl, Nat.le_of_ble_eq_true rfl, Nat.le_of_ble_eq_true rfl⟩ dX9_moves_33 ?_
    refine r_goto C (tgt := 49) (by decide) dX9_moves_36 ?_
    exact r_iret C rfl (Nat.le_of_ble_eq_true rfl) dX9_moves_49 (re_i h)
set_option maxHeartbeats 4000000 in
set_option maxRecDepth 100000 in
theorem mX9_move {l : Launch} {D : va_G} {ad : Nat → Nat} {cy : Nat → ClassId} (hl : l.stackTraces = false) (hI : Inj ad)   {σ τ : Mem} {a1 a2 : Int32} {r : Int32 ⊕ String} (h : fX9_move σ a1 a2 = some (r, τ)) : Co l D ad cy yX9_move cX9_move 3 (Option.some Jvm.ClassFile.FieldType.int) 6 194 1 [.ref (ad 0), .int a1, .int a2] σ (zx r) τ := by
  refine co_of (av := [.inr 0, .inl a1, .inl a2]) hl hI (by decide +kernel) (Nat.le_of_ble_eq_true rfl) [some (.inr 0), some (.inl a1), some (.inl a2)] rfl (fun V C => ?_)
  have C : Rl l D ad cy RX9 cX9_move 3 (Option.some Jvm.ClassFile.FieldType.int) 6 194 1 (zx r) τ V := C
  have L39 : ∀ (σ : Mem), fX9_move_L39   σ  = some (r, τ) → V 0 σ 39 [none, none, none] [] := by
    intro  σ  h
    exact r_throw C th_X9_222 dX9_move_39 dX9_move_42 dX9_move_43 dX9_move_46 ⟨by decide, Nat.le_of_ble_eq_true rfl, by decide⟩ (re_xe h)
  refine r_aload_n C dX9_move_0 rfl ?_
  refine r_getR C ck_9 f_0_4 (by decide) fl_X9_36 rfl dX9_move_1 ?_
  refine r_getR C ck_8 f_84_3 (by decide) fl_X9_205 rfl dX9_move_4 ?_
  refine r_aload_n C dX9_move_7 rfl ?_
  refine r_getR C ck_9 f_0_0 (by decide) fl_X9_12 rfl dX9_move_8 ?_
  refine r_aload_n C dX9_move_11 rfl ?_
  refine r_getR C ck_9 f_0_3 (by decide) fl_X9_29 rfl dX9_move_12 ?_
  refine r_getI C ck_5 f_83_0 (by decide) fl_X9_193 rfl dX9_move_15 ?_
  refine bv_e h (fun σ17 hf17 h => ?_)
  refine r_callVv C g_X3_fill hc_3 o_98 ml_X9_209 (mX3_fill hl hI  hf17) rfl rfl (by exact Nat.le_of_ble_eq_true rfl) ⟨Nat.le_of_ble_eq_true rfl, Nat.le_of_ble_eq_true rfl, Nat.le_of_ble_eq_true rfl⟩ dX9_move_18 ?_
  refine r_iload_n C dX9_move_21 rfl ?_
  refine r_if_lt C (tgt := 39) h (by decide) dX9_move_22 (fun hc h => ?_) (fun hc h => ?_)
  · refine r_weak C [none, none, none] trivial ?_
    exact L39 _ h
  · refine r_iload_n C dX9_move_25 rfl ?_
    refine r_aload_n C dX9_move_26 rfl ?_
    refine r_getR C ck_9 f_0_4 (by decide) fl_X9_36 rfl dX9_move_27 ?_
    refine r_getR C ck_8 f_84_3 (by decide) fl_X9_205 rfl dX9_move_30 ?_
    refine r_getI C ck_3 f_98_1 (by decide) fl_X9_219 rfl dX9_move_33 ?_
    refine r_ic_lt C (tgt := 47) h (by decide) dX9_move_36 (fun hc h => ?_) (fun hc h => ?_)
    · refine r_iload_n C dX9_move_47 rfl ?_
      refine sw_e h (fun he0 h => ?_) (fun he0 h => ?_)
      · refine r_tinE C 40 (tgt := 88) dX9_move_48 he0 ⟨by decide, by decide⟩ (by decide) (by decide) ?_
        refine r_aload_n C dX9_move_88 rfl ?_
        refine r_getR C ck_9 f_0_4 (by decide) fl_X9_36 rfl dX9_move_89 ?_
        refine r_getR C ck_8 f_84_3 (by decide) fl_X9_205 rfl dX9_move_92 ?_
        refine r_getR C ck_3 f_98_0 (by decide) fl_X9_225 rfl dX9_move_95 ?_
        refine r_iload_n C dX9_move_98 rfl ?_
        obtain ⟨ha18, h⟩ := ck_e h
        refine r_rrald C _ a_99 ha18 rfl dX9_move_99 ?_
        refine r_iload_n C dX9_move_100 rfl ?_
        obtain ⟨hi, h⟩ := ck_e h
        refine r_iald C (row_99 ha18) hi dX9_move_101 ?_
        exact r_iret C rfl (Nat.le_of_ble_eq_true rfl) dX9_move_102 (re_xi h)
      · refine sw_e h (fun he1 h => ?_) (fun he1 h => ?_)
        · refine r_tinE C 40 (tgt := 88) dX9_move_48 he1 ⟨by decide, by decide⟩ (by decide) (by decide) ?_
          refine r_aload_n C dX9_move_88 rfl ?_
          refine r_getR C ck_9 f_0_4 (by decide) fl_X9_36 rfl dX9_move_89 ?_
          refine r_getR C ck_8 f_84_3 (by decide) fl_X9_205 rfl dX9_move_92 ?_
          refine r_getR C ck_3 f_98_0 (by decide) fl_X9_225 rfl dX9_move_95 ?_
          refine r_iload_n C dX9_move_98 rfl ?_
          obtain ⟨ha19, h⟩ := ck_e h
          refine r_rrald C _ a_99 ha19 rfl dX9_move_99 ?_
          refine r_iload_n C dX9_move_100 rfl ?_
          obtain ⟨hi, h⟩ := ck_e h
          refine r_iald C (row_99 ha19) hi dX9_move_101 ?_
          exact r_iret C rfl (Nat.le_of_ble_eq_true rfl) dX9_move_102 (re_xi h)
        · refine sw_e h (fun he2 h => ?_) (fun he2 h => ?_)
          · refine r_tinE C 40 (tgt := 88) dX9_move_48 he2 ⟨by decide, by decide⟩ (by decide) (by decide) ?_
            refine r_aload_n C dX9_move_88 rfl ?_
            refine r_getR C ck_9 f_0_4 (by decide) fl_X9_36 rfl dX9_move_89 ?_
            refine r_getR C ck_8 f_84_3 (by decide) fl_X9_205 rfl dX9_move_92 ?_
            refine r_getR C ck_3 f_98_0 (by decide) fl_X9_225 rfl dX9_move_95 ?_
            refine r_iload_n C dX9_move_98 rfl ?_
            obtain ⟨ha20, h⟩ := ck_e h
            refine r_rrald C _ a_99 ha20 rfl dX9_move_99 ?_
            refine r_iload_n C dX9_move_100 rfl ?_
            obtain ⟨hi, h⟩ := ck_e h
            refine r_iald C (row_99 ha20) hi dX9_move_101 ?_
            exact r_iret C rfl (Nat.le_of_ble_eq_true rfl) dX9_move_102 (re_xi h)
          · refine sw_e h (fun he3 h => ?_) (fun he3 h => ?_)
            · refine r_tinE C 40 (tgt := 88) dX9_move_48 he3 ⟨by decide, by decide⟩ (by decide) (by decide) ?_
              refine r_aload_n C dX9_move_88 rfl ?_
              refine r_getR C ck_9 f_0_4 (by decide) fl_X9_36 rfl dX9_move_89 ?_
              refine r_getR C ck_8 f_84_3 (by decide) fl_X9_205 rfl dX9_move_92 ?_
              refine r_getR C ck_3 f_98_0 (by decide) fl_X9_225 rfl dX9_move_95 ?_
              refine r_iload_n C dX9_move_98 rfl ?_
              obtain ⟨ha21, h⟩ := ck_e h
              refine r_rrald C _ a_99 ha21 rfl dX9_move_99 ?_
              refine r_iload_n C dX9_move_100 rfl ?_
              obtain ⟨hi, h⟩ := ck_e h
              refine r_iald C (row_99 ha21) hi dX9_move_101 ?_
              exact r_iret C rfl (Nat.le_of_ble_eq_true rfl) dX9_move_102 (re_xi h)
            · refine sw_e h (fun he4 h => ?_) (fun he4 h => ?_)
              · refine r_tinE C 55 (tgt := 103) dX9_move_48 he4 ⟨by decide, by decide⟩ (by decide) (by decide) ?_
                refine r_aload_n C dX9_move_103 rfl ?_
                refine r_getR C ck_9 f_0_4 (by decide) fl_X9_36 rfl dX9_move_104 ?_
                refine r_aload_n C dX9_move_107 rfl ?_
                refine r_getR C ck_9 f_0_0 (by decide) fl_X9_12 rfl dX9_move_108 ?_
                refine r_iload_n C dX9_move_111 rfl ?_
                refine bd_e h (fun v22 σ22 hf22 h => ?_)
                refine r_callVi C g_X8_costAfter hc_8 o_84 ml_X9_229 (mX8_costAfter hl hI  hf22) rfl rfl (by exact Nat.le_of_ble_eq_true rfl) ⟨Nat.le_of_ble_eq_true rfl, Nat.le_of_ble_eq_true rfl, Nat.le_of_ble_eq_true rfl⟩ dX9_move_112 ?_
                exact r_iret C rfl (Nat.le_of_ble_eq_true rfl) dX9_move_115 (re_xi h)
              · refine sw_e h (fun he5 h => ?_) (fun he5 h => ?_)
                · refine r_tinE C 68 (tgt := 116) dX9_move_48 he5 ⟨by decide, by decide⟩ (by decide) (by decide) ?_
                  refine r_aload_n C dX9_move_116 rfl ?_
                  refine r_getR C ck_9 f_0_4 (by decide) fl_X9_36 rfl dX9_move_117 ?_
                  refine r_aload_n C dX9_move_120 rfl ?_
                  refine r_getR C ck_9 f_0_0 (by decide) fl_X9_12 rfl dX9_move_121 ?_
                  refine r_aload_n C dX9_move_124 rfl ?_
                  refine r_getR C ck_9 f_0_4 (by decide) fl_X9_36 rfl dX9_move_125 ?_
                  refine r_aload_n C dX9_move_128 rfl ?_
                  refine r_getR C ck_9 f_0_0 (by decide) fl_X9_12 rfl dX9_move_129 ?_
                  refine r_iload_n C dX9_move_132 rfl ?_
                  refine bd_e h (fun v23 σ23 hf23 h => ?_)
                  refine r_callVi C g_X8_costAfter hc_8 o_84 ml_X9_229 (mX8_costAfter hl hI  hf23) rfl rfl (by exact Nat.le_of_ble_eq_true rfl) ⟨Nat.le_of_ble_eq_true rfl, Nat.le_of_ble_eq_true rfl, Nat.le_of_ble_eq_true rfl⟩ dX9_move_133 ?_
                  refine bd_e h (fun v24 σ24 hf24 h => ?_)
                  refine r_callVi C g_X8_isTrialHeld hc_8 o_84 ml_X9_232 (mX8_isTrialHeld hl hI  hf24) rfl rfl (by exact Nat.le_of_ble_eq_true rfl) ⟨Nat.le_of_ble_eq_true rfl, Nat.le_of_ble_eq_true rfl, Nat.le_of_ble_eq_true rfl⟩ dX9_move_136 ?_
                  refine r_if_eq C (tgt := 146) h (by decide) dX9_move_139 (fun hc h => ?_) (fun hc h => ?_)
                  · refine r_iconst C ic_0 dX9_move_146 ?_
                    exact r_iret C rfl (Nat.le_of_ble_eq_true rfl) dX9_move_147 (re_xi h)
                  · refine r_iconst C ic_1 dX9_move_142 ?_
                    refine r_goto C (tgt := 147) (by decide) dX9_move_143 ?_
                    exact r_iret C rfl (Nat.le_of_ble_eq_true rfl) dX9_move_147 (re_xi h)
                · refine r_tout C (tgt := 148) dX9_move_48 (tout 5 (by decide) (fun j hj => match j, hj with | 0, _ => he0 | 1, _ => he1 | 2, _ => he2 | 3, _ => he3 | 4, _ => he4 | 5, _ => he5)) (by decide) ?_
                  exact r_throw C th_X9_128 dX9_move_148 dX9_move_151 dX9_move_152 dX9_move_155 ⟨by decide, Nat.le_of_ble_eq_true rfl, by decide⟩ (re_xe h)
    · refine r_weak C [none, none, none] trivial ?_
      exact L39 _ h
set_option maxHeartbeats 4000000 in
set_option maxRecDepth 100000 in
theorem mX9_nextMove {l : Launch} {D : va_G} {ad : Nat → Nat} {cy : Nat → ClassId} (hl : l.stackTraces = false) (hI : Inj ad)   {σ τ : Mem} {r : Int32 ⊕ String} (h : fX9_nextMove σ = some (r, τ)) : Co l D ad cy yX9_nextMove cX9_nextMove 2 (Option.some Jvm.ClassFile.FieldType.int) 6 222 1 [.ref (ad 0)] σ (zx r) τ := by
  refine co_of (av := [.inr 0]) hl hI (by decide +kernel) (Nat.le_of_ble_eq_true rfl) [some (.inr 0), none] rfl (fun V C => ?_)
  have C : Rl l D ad cy RX9 cX9_nextMove 2 (Option.some Jvm.ClassFile.FieldType.int) 6 222 1 (zx r) τ V := C
  refine r_aload_n C dX9_nextMove_0 rfl ?_
  refine r_getR C ck_9 f_0_4 (by decide) fl_X9_36 rfl dX9_nextMove_1 ?_
  refine r_aload_n C dX9_nextMove_4 rfl ?_
  refine r_getR C ck_9 f_0_0 (by decide) fl_X9_12 rfl dX9_nextMove_5 ?_
  refine r_aload_n C dX9_nextMove_8 rfl ?_
  refine r_getR C ck_9 f_0_3 (by decide) fl_X9_29 rfl dX9_nextMove_9 ?_
  refine r_getI C ck_5 f_83_0 (by decide) fl_X9_193 rfl dX9_nextMove_12 ?_
  refine r_iconst C ic_0 dX9_nextMove_15 ?_
  refine bd_e h (fun v3 σ3 hf3 h => ?_)
  refine r_callVi C g_X8_cheapest hc_8 o_84 ml_X9_236 (mX8_cheapest hl hI  hf3) rfl rfl (by exact Nat.le_of_ble_eq_true rfl) ⟨Nat.le_of_ble_eq_true rfl, Nat.le_of_ble_eq_true rfl, Nat.le_of_ble_eq_true rfl⟩ dX9_nextMove_16 ?_
  refine r_istore_n C (by decide) dX9_nextMove_19 ?_
  refine r_iload_n C dX9_nextMove_20 rfl ?_
  refine r_iconst C ic_m1 dX9_nextMove_21 ?_
  refine r_ic_ne C (tgt := 33) h (by decide) dX9_nextMove_22 (fun hc h => ?_) (fun hc h => ?_)
  · refine r_iload_n C dX9_nextMove_33 rfl ?_
    exact r_iret C rfl (Nat.le_of_ble_eq_true rfl) dX9_nextMove_34 (re_xi h)
  · exact r_throw C th_X9_182 dX9_nextMove_25 dX9_nextMove_28 dX9_nextMove_29 dX9_nextMove_32 ⟨by decide, Nat.le_of_ble_eq_true rfl, by decide⟩ (re_xe h)
set_option maxHeartbeats 4000000 in
set_option maxRecDepth 100000 in
theorem mX9_isForbidden {l : Launch} {D : va_G} {ad : Nat → Nat} {cy : Nat → ClassId} (hl : l.stackTraces = false) (hI : Inj ad)   {σ τ : Mem} {a1 a2 : Int32} {r : Int32 ⊕ String} (h : fX9_isForbidden σ a1 a2 = some (r, τ)) : Co l D ad cy yX9_isForbidden cX9_isForbidden 3 (Option.some Jvm.ClassFile.FieldType.boolean) 7 122 2 [.ref (ad 0), .int a1, .int a2] σ (zx r) τ := by
  refine co_of (av := [.inr 0, .inl a1, .inl a2]) hl hI (by decide +kernel) (Nat.le_of_ble_eq_true rfl) [some (.inr 0), some (.inl a1), some (.inl a2)] rfl (fun V C => ?_)
  have C : Rl l D ad cy RX9 cX9_isForbidden 3 (Option.some Jvm.ClassFile.FieldType.boolean) 7 122 2 (zx r) τ V := C
  refine r_aload_n C dX9_isForbidden_0 rfl ?_
  refine r_iload_n C dX9_isForbidden_1 rfl ?_
  refine bx_e h (fun v7 σ7 hf7 h => ?_) (fun e9 σ7 hf7 h => ?_)
  · refine r_callVv C g_X9_checkVariable hc_9 o_0 ml_X9_98 (mX9_checkVariable hl hI  hf7) rfl rfl (by exact Nat.le_of_ble_eq_true rfl) ⟨Nat.le_of_ble_eq_true rfl, Nat.le_of_ble_eq_true rfl, Nat.le_of_ble_eq_true rfl⟩ dX9_isForbidden_2 ?_
    refine r_iload_n C dX9_isForbidden_5 rfl ?_
    refine r_iconst C ic_0 dX9_isForbidden_6 ?_
    refine r_aload_n C dX9_isForbidden_7 rfl ?_
    refine r_getR C ck_9 f_0_0 (by decide) fl_X9_12 rfl dX9_isForbidden_8 ?_
    refine r_getR C ck_4 f_1_0 (by decide) fl_X9_101 rfl dX9_isForbidden_11 ?_
    refine r_iload_n C dX9_isForbidden_14 rfl ?_
    obtain ⟨hi, h⟩ := ck_e h
    refine r_iald C i_2 hi dX9_isForbidden_15 ?_
    refine r_iconst C ic_1 dX9_isForbidden_16 ?_
    refine r_isub C dX9_isForbidden_17 ?_
    refine bx_e h (fun v8 σ8 hf8 h => ?_) (fun e9 σ8 hf8 h => ?_)
    · refine r_callSv C g_X9_checkRange ml_X9_114 (mX9_checkRange hl hI  hf8) rfl rfl (by exact Nat.le_of_ble_eq_true rfl) ⟨Nat.le_of_ble_eq_true rfl, Nat.le_of_ble_eq_true rfl, Nat.le_of_ble_eq_true rfl⟩ dX9_isForbidden_18 ?_
      refine r_aload_n C dX9_isForbidden_21 rfl ?_
      refine r_getR C ck_9 f_0_4 (by decide) fl_X9_36 rfl dX9_isForbidden_22 ?_
      refine r_iload_n C dX9_isForbidden_25 rfl ?_
      refine r_iload_n C dX9_isForbidden_26 rfl ?_
      refine bd_e h (fun v9 σ9 hf9 h => ?_)
      refine r_callVi C g_X8_isBanned hc_8 o_84 ml_X9_240 (mX8_isBanned hl hI  hf9) rfl rfl (by exact Nat.le_of_ble_eq_true rfl) ⟨Nat.le_of_ble_eq_true rfl, Nat.le_of_ble_eq_true rfl, Nat.le_of_ble_eq_true rfl⟩ dX9_isForbidden_27 ?_
      obtain ⟨hz, h⟩ := ckz_e h
      exact r_zret C rfl (Nat.le_of_ble_eq_true rfl) hz dX9_isForbidden_30 (re_xi h)
    · exact r_callSx C g_X9_checkRange ml_X9_114 (mX9_checkRange hl hI  hf8) rfl rfl (by exact Nat.le_of_ble_eq_true rfl) ⟨Nat.le_of_ble_eq_true rfl, Nat.le_of_ble_eq_true rfl, Nat.le_of_ble_eq_true rfl⟩ dX9_isForbidden_18 (re_xe h)
  · exact r_callVx C g_X9_checkVariable hc_9 o_0 ml_X9_98 (mX9_checkVariable hl hI  hf7) rfl rfl (by exact Nat.le_of_ble_eq_true rfl) ⟨Nat.le_of_ble_eq_true rfl, Nat.le_of_ble_eq_true rfl, Nat.le_of_ble_eq_true rfl⟩ dX9_isForbidden_2 (re_xe h)
set_option maxHeartbeats 4000000 in
set_option maxRecDepth 100000 in
theorem mX9_isLocalOptimum {l : Launch} {D : va_G} {ad : Nat → Nat} {cy : Nat → ClassId} (hl : l.stackTraces = false) (hI : Inj ad)   {σ τ : Mem} {r : Int32} (h : fX9_isLocalOptimum σ = some (r, τ)) : Co l D ad cy yX9_isLocalOptimum cX9_isLocalOptimum 1 (Option.some Jvm.ClassFile.FieldType.boolean) 7 245 0 [.ref (ad 0)] σ (zi r) τ := by
  refine co_of (av := [.inr 0]) hl hI (by decide +kernel) (Nat.le_of_ble_eq_true rfl) [some (.inr 0)] rfl (fun V C => ?_)
  have C : Rl l D ad cy RX9 cX9_isLocalOptimum 1 (Option.some Jvm.ClassFile.FieldType.boolean) 7 245 0 (zi r) τ V := C
  refine r_aload_n C dX9_isLocalOptimum_0 rfl ?_
  refine r_getR C ck_9 f_0_4 (by decide) fl_X9_36 rfl dX9_isLocalOptimum_1 ?_
  refine r_aload_n C dX9_isLocalOptimum_4 rfl ?_
  refine r_getR C ck_9 f_0_0 (by decide) fl_X9_12 rfl dX9_isLocalOptimum_5 ?_
  refine r_aload_n C dX9_isLocalOptimum_8 rfl ?_
  refine r_getR C ck_9 f_0_3 (by decide) fl_X9_29 rfl dX9_isLocalOptimum_9 ?_
  refine r_getI C ck_5 f_83_0 (by decide) fl_X9_193 rfl dX9_isLocalOptimum_12 ?_
  refine bd_e h (fun v3 σ3 hf3 h => ?_)
  refine r_callVi C g_X8_downhill hc_8 o_84 ml_X9_243 (mX8_downhill hl hI  hf3) rfl rfl (by exact Nat.le_of_ble_eq_true rfl) ⟨Nat.le_of_ble_eq_true rfl, Nat.le_of_ble_eq_true rfl, Nat.le_of_ble_eq_true rfl⟩ dX9_isLocalOptimum_15 ?_
  refine r_iconst C ic_m1 dX9_isLocalOptimum_18 ?_
  refine r_ic_ne C (tgt := 26) h (by decide) dX9_isLocalOptimum_19 (fun hc h => ?_) (fun hc h => ?_)
  · refine r_iconst C ic_0 dX9_isLocalOptimum_26 ?_
    exact r_zret C rfl (Nat.le_of_ble_eq_true rfl) (Or.inl rfl) dX9_isLocalOptimum_27 (re_i h)
  · refine r_iconst C ic_1 dX9_isLocalOptimum_22 ?_
    refine r_goto C (tgt := 27) (by decide) dX9_isLocalOptimum_23 ?_
    exact r_zret C rfl (Nat.le_of_ble_eq_true rfl) (Or.inr rfl) dX9_isLocalOptimum_27 (re_i h)
set_option maxHeartbeats 4000000 in
set_option maxRecDepth 100000 in
theorem mX9_step {l : Launch} {D : va_G} {ad : Nat → Nat} {cy : Nat → ClassId} (hl : l.stackTraces = false) (hI : Inj ad)   {σ τ : Mem} {r : Int32 ⊕ String} (h : fX9_step σ = some (r, τ)) : Co l D ad cy yX9_step cX9_step 1 (Option.some Jvm.ClassFile.FieldType.int) 7 247 1 [.ref (ad 0)] σ (zx r) τ := by
  refine co_of (av := [.inr 0]) hl hI (by decide +kernel) (Nat.le_of_ble_eq_true rfl) [some (.inr 0)] rfl (fun V C => ?_)
  have C : Rl l D ad cy RX9 cX9_step 1 (Option.some Jvm.ClassFile.FieldType.int) 7 247 1 (zx r) τ V := C
  refine r_aload_n C dX9_step_0 rfl ?_
  refine r_getR C ck_9 f_0_4 (by decide) fl_X9_36 rfl dX9_step_1 ?_
  refine r_aload_n C dX9_step_4 rfl ?_
  refine r_getR C ck_9 f_0_0 (by decide) fl_X9_12 rfl dX9_step_5 ?_
  refine r_aload_n C dX9_step_8 rfl ?_
  refine r_getR C ck_9 f_0_3 (by decide) fl_X9_29 rfl dX9_step_9 ?_
  refine bd_e h (fun v5 σ5 hf5 h => ?_)
  refine r_callVi C g_X8_tryStep hc_8 o_84 ml_X9_246 (mX8_tryStep hl hI  hf5) rfl rfl (by exact Nat.le_of_ble_eq_true rfl) ⟨Nat.le_of_ble_eq_true rfl, Nat.le_of_ble_eq_true rfl, Nat.le_of_ble_eq_true rfl⟩ dX9_step_12 ?_
  refine r_if_ne C (tgt := 26) h (by decide) dX9_step_15 (fun hc h => ?_) (fun hc h => ?_)
  · refine r_aload_n C dX9_step_26 rfl ?_
    refine r_getR C ck_9 f_0_0 (by decide) fl_X9_12 rfl dX9_step_27 ?_
    refine bd_e h (fun v6 σ6 hf6 h => ?_)
    refine r_callVi C g_X4_presentCost hc_4 o_1 ml_X9_172 (mX4_presentCost hl hI  hf6) rfl rfl (by exact Nat.le_of_ble_eq_true rfl) ⟨Nat.le_of_ble_eq_true rfl, Nat.le_of_ble_eq_true rfl, Nat.le_of_ble_eq_true rfl⟩ dX9_step_30 ?_
    exact r_iret C rfl (Nat.le_of_ble_eq_true rfl) dX9_step_33 (re_xi h)
  · exact r_throw C th_X9_182 dX9_step_18 dX9_step_21 dX9_step_22 dX9_step_25 ⟨by decide, Nat.le_of_ble_eq_true rfl, by decide⟩ (re_xe h)
set_option maxHeartbeats 4000000 in
set_option maxRecDepth 100000 in
theorem mX9_run {l : Launch} {D : va_G} {ad : Nat → Nat} {cy : Nat → ClassId} (hl : l.stackTraces = false) (hI : Inj ad)   {σ τ : Mem} {a1 : Int32} {r : Int32 ⊕ String} (h : fX9_run σ a1 = some (r, τ)) : Co l D ad cy yX9_run cX9_run 3 (Option.some Jvm.ClassFile.FieldType.int) 7 247 1 [.ref (ad 0), .int a1] σ (zx r) τ := by
  refine co_of (av := [.inr 0, .inl a1]) hl hI (by decide +kernel) (Nat.le_of_ble_eq_true rfl) [some (.inr 0), some (.inl a1), none] rfl (fun V C => ?_)
  have C : Rl l D ad cy RX9 cX9_run 3 (Option.some Jvm.ClassFile.FieldType.int) 7 247 1 (zx r) τ V := C
  have L42 : ∀ (σ : Mem) (l2 : Int32), fX9_run_L42   σ l2 = some (r, τ) → V 1 σ 42 [none, none, some (.inl l2)] [] := by
    intro  σ l2 h
    refine r_iload_n C dX9_run_42 rfl ?_
    exact r_iret C rfl (Nat.le_of_ble_eq_true rfl) dX9_run_43 (re_xi h)
  have L9 : ∀ (n : Nat) (σ : Mem) (l1 l2 : Int32), fX9_run_L9  n σ l1 l2 = some (r, τ) → V 1 σ 9 [some (.inr 0), some (.inl l1), some (.inl l2)] [] := by
    intro n9
    induction n9 with
    | zero => intro σ l1 l2 h; exact no_e h
    | succ n9 ih9 =>
      intro σ l1 l2 h
      have h : fX9_run_B9  (fX9_run_L9  n9) σ l1 l2 = some (r, τ) := h
      refine r_iload_n C dX9_run_9 rfl ?_
      refine r_iload_n C dX9_run_10 rfl ?_
      refine r_ic_ge C (tgt := 50) h (by decide) dX9_run_11 (fun hc h => ?_) (fun hc h => ?_)
      · refine r_iload_n C dX9_run_50 rfl ?_
        exact r_iret C rfl (Nat.le_of_ble_eq_true rfl) dX9_run_51 (re_xi h)
      · refine r_aload_n C dX9_run_14 rfl ?_
        refine r_getR C ck_9 f_0_0 (by decide) fl_X9_12 rfl dX9_run_15 ?_
        refine bd_e h (fun v7 σ7 hf7 h => ?_)
        refine r_callVi C g_X4_presentCost hc_4 o_1 ml_X9_172 (mX4_presentCost hl hI  hf7) rfl rfl (by exact Nat.le_of_ble_eq_true rfl) ⟨Nat.le_of_ble_eq_true rfl, Nat.le_of_ble_eq_true rfl, Nat.le_of_ble_eq_true rfl⟩ dX9_run_18 ?_
        refine r_if_eq C (tgt := 42) h (by decide) dX9_run_21 (fun hc h => ?_) (fun hc h => ?_)
        · refine r_weak C [none, none, some (.inl l2)] ⟨rfl, trivial⟩ ?_
          exact L42 _ _ h
        · refine r_aload_n C dX9_run_24 rfl ?_
          refine r_getR C ck_9 f_0_4 (by decide) fl_X9_36 rfl dX9_run_25 ?_
          refine r_aload_n C dX9_run_28 rfl ?_
          refine r_getR C ck_9 f_0_0 (by decide) fl_X9_12 rfl dX9_run_29 ?_
          refine r_aload_n C dX9_run_32 rfl ?_
          refine r_getR C ck_9 f_0_3 (by decide) fl_X9_29 rfl dX9_run_33 ?_
          refine bd_e h (fun v8 σ8 hf8 h => ?_)
          refine r_callVi C g_X8_tryStep hc_8 o_84 ml_X9_246 (mX8_tryStep hl hI  hf8) rfl rfl (by exact Nat.le_of_ble_eq_true rfl) ⟨Nat.le_of_ble_eq_true rfl, Nat.le_of_ble_eq_true rfl, Nat.le_of_ble_eq_true rfl⟩ dX9_run_36 ?_
          refine r_if_ne C (tgt := 44) h (by decide) dX9_run_39 (fun hc h => ?_) (fun hc h => ?_)
          · refine r_iinc C ic_1 (by decide) dX9_run_44 rfl ?_
            refine r_goto C (tgt := 9) (by decide) dX9_run_47 ?_
            exact ih9 _ _ _ h
          · refine r_weak C [none, none, some (.inl l2)] ⟨rfl, trivial⟩ ?_
            exact L42 _ _ h
  refine r_iload_n C dX9_run_0 rfl ?_
  refine r_iconst C ic_1 dX9_run_1 ?_
  refine r_bipush C bp_30 dX9_run_2 ?_
  refine bx_e h (fun v9 σ9 hf9 h => ?_) (fun e9 σ9 hf9 h => ?_)
  · refine r_callSv C g_X9_checkRange ml_X9_114 (mX9_checkRange hl hI  hf9) rfl rfl (by exact Nat.le_of_ble_eq_true rfl) ⟨Nat.le_of_ble_eq_true rfl, Nat.le_of_ble_eq_true rfl, Nat.le_of_ble_eq_true rfl⟩ dX9_run_4 ?_
    refine r_iconst C ic_0 dX9_run_7 ?_
    refine r_istore_n C (by decide) dX9_run_8 ?_
    exact L9 FU _ _ _ h
  · exact r_callSx C g_X9_checkRange ml_X9_114 (mX9_checkRange hl hI  hf9) rfl rfl (by exact Nat.le_of_ble_eq_true rfl) ⟨Nat.le_of_ble_eq_true rfl, Nat.le_of_ble_eq_true rfl, Nat.le_of_ble_eq_true rfl⟩ dX9_run_4 (re_xe h)
set_option maxHeartbeats 4000000 in
set_option maxRecDepth 100000 in
theorem mX9_descend {l : Launch} {D : va_G} {ad : Nat → Nat} {cy : Nat → ClassId} (hl : l.stackTraces = false) (hI : Inj ad)   {σ τ : Mem} {r : Int32} (h : fX9_descend σ = some (r, τ)) : Co l D ad cy yX9_descend cX9_descend 3 (Option.some Jvm.ClassFile.FieldType.int) 7 245 0 [.ref (ad 0)] σ (zi r) τ := by
  refine co_of (av := [.inr 0]) hl hI (by decide +kernel) (Nat.le_of_ble_eq_true rfl) [some (.inr 0), none, none] rfl (fun V C => ?_)
  have C : Rl l D ad cy RX9 cX9_descend 3 (Option.some Jvm.ClassFile.FieldType.int) 7 245 0 (zi r) τ V := C
  have L2 : ∀ (n : Nat) (σ : Mem) (l1 : Int32), fX9_descend_L2  n σ l1 = some (r, τ) → V 0 σ 2 [some (.inr 0), some (.inl l1), none] [] := by
    intro n2
    induction n2 with
    | zero => intro σ l1 h; exact no_e h
    | succ n2 ih2 =>
      intro σ l1 h
      have h : fX9_descend_B2  (fX9_descend_L2  n2) σ l1 = some (r, τ) := h
      refine r_iload_n C dX9_descend_2 rfl ?_
      refine r_ldc C kc_X9_250 dX9_descend_3 ?_
      refine r_ic_ge C (tgt := 52) h (by decide) dX9_descend_5 (fun hc h => ?_) (fun hc h => ?_)
      · refine r_ldc C kc_X9_250 dX9_descend_52 ?_
        exact r_iret C rfl (Nat.le_of_ble_eq_true rfl) dX9_descend_54 (re_i h)
      · refine r_aload_n C dX9_descend_8 rfl ?_
        refine r_getR C ck_9 f_0_4 (by decide) fl_X9_36 rfl dX9_descend_9 ?_
        refine r_aload_n C dX9_descend_12 rfl ?_
        refine r_getR C ck_9 f_0_0 (by decide) fl_X9_12 rfl dX9_descend_13 ?_
        refine r_aload_n C dX9_descend_16 rfl ?_
        refine r_getR C ck_9 f_0_3 (by decide) fl_X9_29 rfl dX9_descend_17 ?_
        refine r_getI C ck_5 f_83_0 (by decide) fl_X9_193 rfl dX9_descend_20 ?_
        refine bd_e h (fun v5 σ5 hf5 h => ?_)
        refine r_callVi C g_X8_downhill hc_8 o_84 ml_X9_243 (mX8_downhill hl hI  hf5) rfl rfl (by exact Nat.le_of_ble_eq_true rfl) ⟨Nat.le_of_ble_eq_true rfl, Nat.le_of_ble_eq_true rfl, Nat.le_of_ble_eq_true rfl⟩ dX9_descend_23 ?_
        refine r_istore_n C (by decide) dX9_descend_26 ?_
        refine r_iload_n C dX9_descend_27 rfl ?_
        refine r_iconst C ic_m1 dX9_descend_28 ?_
        refine r_ic_ne C (tgt := 34) h (by decide) dX9_descend_29 (fun hc h => ?_) (fun hc h => ?_)
        · refine r_aload_n C dX9_descend_34 rfl ?_
          refine r_getR C ck_9 f_0_4 (by decide) fl_X9_36 rfl dX9_descend_35 ?_
          refine r_aload_n C dX9_descend_38 rfl ?_
          refine r_getR C ck_9 f_0_0 (by decide) fl_X9_12 rfl dX9_descend_39 ?_
          refine r_iload_n C dX9_descend_42 rfl ?_
          refine bv_e h (fun σ6 hf6 h => ?_)
          refine r_callVv C g_X8_goDown hc_8 o_84 ml_X9_251 (mX8_goDown hl hI  hf6) rfl rfl (by exact Nat.le_of_ble_eq_true rfl) ⟨Nat.le_of_ble_eq_true rfl, Nat.le_of_ble_eq_true rfl, Nat.le_of_ble_eq_true rfl⟩ dX9_descend_43 ?_
          refine r_iinc C ic_1 (by decide) dX9_descend_46 rfl ?_
          refine r_goto C (tgt := 2) (by decide) dX9_descend_49 ?_
          refine r_weak C [some (.inr 0), some (.inl (l1 + (1 : Int32))), none] ⟨rfl, ⟨rfl, trivial⟩⟩ ?_
          exact ih2 _ _ h
        · refine r_iload_n C dX9_descend_32 rfl ?_
          exact r_iret C rfl (Nat.le_of_ble_eq_true rfl) dX9_descend_33 (re_i h)
  refine r_iconst C ic_0 dX9_descend_0 ?_
  refine r_istore_n C (by decide) dX9_descend_1 ?_
  exact L2 FU _ _ h
set_option maxHeartbeats 4000000 in
set_option maxRecDepth 100000 in
theorem mX9_restart {l : Launch} {D : va_G} {ad : Nat → Nat} {cy : Nat → ClassId} (hl : l.stackTraces = false) (hI : Inj ad)   {σ τ : Mem} {r : Int32} (h : fX9_restart σ = some (r, τ)) : Co l D ad cy yX9_restart cX9_restart 1 (Option.some Jvm.ClassFile.FieldType.int) 5 197 0 [.ref (ad 0)] σ (zi r) τ := by
  refine co_of (av := [.inr 0]) hl hI (by decide +kernel) (Nat.le_of_ble_eq_true rfl) [some (.inr 0)] rfl (fun V C => ?_)
  have C : Rl l D ad cy RX9 cX9_restart 1 (Option.some Jvm.ClassFile.FieldType.int) 5 197 0 (zi r) τ V := C
  refine r_aload_n C dX9_restart_0 rfl ?_
  refine r_getR C ck_9 f_0_4 (by decide) fl_X9_36 rfl dX9_restart_1 ?_
  refine r_aload_n C dX9_restart_4 rfl ?_
  refine r_getR C ck_9 f_0_0 (by decide) fl_X9_12 rfl dX9_restart_5 ?_
  refine r_aload_n C dX9_restart_8 rfl ?_
  refine r_getR C ck_9 f_0_3 (by decide) fl_X9_29 rfl dX9_restart_9 ?_
  refine bv_e h (fun σ5 hf5 h => ?_)
  refine r_callVv C g_X8_startAnew hc_8 o_84 ml_X9_254 (mX8_startAnew hl hI  hf5) rfl rfl (by exact Nat.le_of_ble_eq_true rfl) ⟨Nat.le_of_ble_eq_true rfl, Nat.le_of_ble_eq_true rfl, Nat.le_of_ble_eq_true rfl⟩ dX9_restart_12 ?_
  refine r_aload_n C dX9_restart_15 rfl ?_
  refine r_getR C ck_9 f_0_0 (by decide) fl_X9_12 rfl dX9_restart_16 ?_
  refine bd_e h (fun v6 σ6 hf6 h => ?_)
  refine r_callVi C g_X4_presentCost hc_4 o_1 ml_X9_172 (mX4_presentCost hl hI  hf6) rfl rfl (by exact Nat.le_of_ble_eq_true rfl) ⟨Nat.le_of_ble_eq_true rfl, Nat.le_of_ble_eq_true rfl, Nat.le_of_ble_eq_true rfl⟩ dX9_restart_19 ?_
  exact r_iret C rfl (Nat.le_of_ble_eq_true rfl) dX9_restart_22 (re_i h)
set_option maxHeartbeats 4000000 in
set_option maxRecDepth 100000 in
theorem mX9_search {l : Launch} {D : va_G} {ad : Nat → Nat} {cy : Nat → ClassId} (hl : l.stackTraces = false) (hI : Inj ad)   {σ τ : Mem} {a1 : Int32} {r : Int32 ⊕ String} (h : fX9_search σ a1 = some (r, τ)) : Co l D ad cy yX9_search cX9_search 2 (Option.some Jvm.ClassFile.FieldType.int) 6 100 1 [.ref (ad 0), .int a1] σ (zx r) τ := by
  refine co_of (av := [.inr 0, .inl a1]) hl hI (by decide +kernel) (Nat.le_of_ble_eq_true rfl) [some (.inr 0), some (.inl a1)] rfl (fun V C => ?_)
  have C : Rl l D ad cy RX9 cX9_search 2 (Option.some Jvm.ClassFile.FieldType.int) 6 100 1 (zx r) τ V := C
  refine r_iload_n C dX9_search_0 rfl ?_
  refine sw_e h (fun he0 h => ?_) (fun he0 h => ?_)
  · refine r_tinE C 35 (tgt := 36) dX9_search_1 he0 ⟨by decide, by decide⟩ (by decide) (by decide) ?_
    refine r_aload_n C dX9_search_36 rfl ?_
    refine r_getR C ck_9 f_0_4 (by decide) fl_X9_36 rfl dX9_search_37 ?_
    refine r_getI C ck_8 f_84_7 (by decide) fl_X9_258 rfl dX9_search_40 ?_
    exact r_iret C rfl (Nat.le_of_ble_eq_true rfl) dX9_search_43 (re_xi h)
  · refine sw_e h (fun he1 h => ?_) (fun he1 h => ?_)
    · refine r_tinE C 43 (tgt := 44) dX9_search_1 he1 ⟨by decide, by decide⟩ (by decide) (by decide) ?_
      refine r_aload_n C dX9_search_44 rfl ?_
      refine r_getR C ck_9 f_0_4 (by decide) fl_X9_36 rfl dX9_search_45 ?_
      refine r_getI C ck_8 f_84_8 (by decide) fl_X9_261 rfl dX9_search_48 ?_
      exact r_iret C rfl (Nat.le_of_ble_eq_true rfl) dX9_search_51 (re_xi h)
    · refine sw_e h (fun he2 h => ?_) (fun he2 h => ?_)
      · refine r_tinE C 51 (tgt := 52) dX9_search_1 he2 ⟨by decide, by decide⟩ (by decide) (by decide) ?_
        refine r_aload_n C dX9_search_52 rfl ?_
        refine r_getR C ck_9 f_0_4 (by decide) fl_X9_36 rfl dX9_search_53 ?_
        refine r_getI C ck_8 f_84_9 (by decide) fl_X9_264 rfl dX9_search_56 ?_
        exact r_iret C rfl (Nat.le_of_ble_eq_true rfl) dX9_search_59 (re_xi h)
      · refine sw_e h (fun he3 h => ?_) (fun he3 h => ?_)
        · refine r_tinE C 59 (tgt := 60) dX9_search_1 he3 ⟨by decide, by decide⟩ (by decide) (by decide) ?_
          refine r_aload_n C dX9_search_60 rfl ?_
          refine r_getR C ck_9 f_0_3 (by decide) fl_X9_29 rfl dX9_search_61 ?_
          refine r_getI C ck_5 f_83_3 (by decide) fl_X9_202 rfl dX9_search_64 ?_
          exact r_iret C rfl (Nat.le_of_ble_eq_true rfl) dX9_search_67 (re_xi h)
        · refine sw_e h (fun he4 h => ?_) (fun he4 h => ?_)
          · refine r_tinE C 67 (tgt := 68) dX9_search_1 he4 ⟨by decide, by decide⟩ (by decide) (by decide) ?_
            refine r_aload_n C dX9_search_68 rfl ?_
            refine r_getR C ck_9 f_0_4 (by decide) fl_X9_36 rfl dX9_search_69 ?_
            refine r_getI C ck_8 f_84_6 (by decide) fl_X9_267 rfl dX9_search_72 ?_
            exact r_iret C rfl (Nat.le_of_ble_eq_true rfl) dX9_search_75 (re_xi h)
          · refine r_tout C (tgt := 76) dX9_search_1 (tout 4 (by decide) (fun j hj => match j, hj with | 0, _ => he0 | 1, _ => he1 | 2, _ => he2 | 3, _ => he3 | 4, _ => he4)) (by decide) ?_
            exact r_throw C th_X9_128 dX9_search_76 dX9_search_79 dX9_search_80 dX9_search_83 ⟨by decide, Nat.le_of_ble_eq_true rfl, by decide⟩ (re_xe h)
set_option maxHeartbeats 4000000 in
set_option maxRecDepth 100000 in
theorem mX9_logSize {l : Launch} {D : va_G} {ad : Nat → Nat} {cy : Nat → ClassId} (hl : l.stackTraces = false) (hI : Inj ad)   {σ τ : Mem} {r : Int32} (h : fX9_logSize σ = some (r, τ)) : Co l D ad cy yX9_logSize cX9_logSize 1 (Option.some Jvm.ClassFile.FieldType.int) 1 100 0 [.ref (ad 0)] σ (zi r) τ := by
  refine co_of (av := [.inr 0]) hl hI (by decide +kernel) (Nat.le_of_ble_eq_true rfl) [some (.inr 0)] rfl (fun V C => ?_)
  have C : Rl l D ad cy RX9 cX9_logSize 1 (Option.some Jvm.ClassFile.FieldType.int) 1 100 0 (zi r) τ V := C
  refine r_aload_n C dX9_logSize_0 rfl ?_
  refine r_getR C ck_9 f_0_4 (by decide) fl_X9_36 rfl dX9_logSize_1 ?_
  refine r_getR C ck_8 f_84_4 (by decide) fl_X9_270 rfl dX9_logSize_4 ?_
  refine r_getI C ck_6 f_104_2 (by decide) fl_X9_274 rfl dX9_logSize_7 ?_
  exact r_iret C rfl (Nat.le_of_ble_eq_true rfl) dX9_logSize_10 (re_i h)
set_option maxHeartbeats 4000000 in
set_option maxRecDepth 100000 in
theorem mX9_log {l : Launch} {D : va_G} {ad : Nat → Nat} {cy : Nat → ClassId} (hl : l.stackTraces = false) (hI : Inj ad)   {σ τ : Mem} {a1 a2 : Int32} {r : Int32 ⊕ String} (h : fX9_log σ a1 a2 = some (r, τ)) : Co l D ad cy yX9_log cX9_log 3 (Option.some Jvm.ClassFile.FieldType.int) 7 122 1 [.ref (ad 0), .int a1, .int a2] σ (zx r) τ := by
  refine co_of (av := [.inr 0, .inl a1, .inl a2]) hl hI (by decide +kernel) (Nat.le_of_ble_eq_true rfl) [some (.inr 0), some (.inl a1), some (.inl a2)] rfl (fun V C => ?_)
  have C : Rl l D ad cy RX9 cX9_log 3 (Option.some Jvm.ClassFile.FieldType.int) 7 122 1 (zx r) τ V := C
  have L18 : ∀ (σ : Mem), fX9_log_L18   σ  = some (r, τ) → V 0 σ 18 [none, none, none] [] := by
    intro  σ  h
    exact r_throw C th_X9_222 dX9_log_18 dX9_log_21 dX9_log_22 dX9_log_25 ⟨by decide, Nat.le_of_ble_eq_true rfl, by decide⟩ (re_xe h)
  refine r_iload_n C dX9_log_0 rfl ?_
  refine r_if_lt C (tgt := 18) h (by decide) dX9_log_1 (fun hc h => ?_) (fun hc h => ?_)
  · refine r_weak C [none, none, none] trivial ?_
    exact L18 _ h
  · refine r_iload_n C dX9_log_4 rfl ?_
    refine r_aload_n C dX9_log_5 rfl ?_
    refine r_getR C ck_9 f_0_4 (by decide) fl_X9_36 rfl dX9_log_6 ?_
    refine r_getR C ck_8 f_84_4 (by decide) fl_X9_270 rfl dX9_log_9 ?_
    refine r_getI C ck_6 f_104_2 (by decide) fl_X9_274 rfl dX9_log_12 ?_
    refine r_ic_lt C (tgt := 26) h (by decide) dX9_log_15 (fun hc h => ?_) (fun hc h => ?_)
    · refine r_iload_n C dX9_log_26 rfl ?_
      refine r_iconst C ic_0 dX9_log_27 ?_
      refine r_iconst C ic_5 dX9_log_28 ?_
      refine bx_e h (fun v5 σ5 hf5 h => ?_) (fun e9 σ5 hf5 h => ?_)
      · refine r_callSv C g_X9_checkRange ml_X9_114 (mX9_checkRange hl hI  hf5) rfl rfl (by exact Nat.le_of_ble_eq_true rfl) ⟨Nat.le_of_ble_eq_true rfl, Nat.le_of_ble_eq_true rfl, Nat.le_of_ble_eq_true rfl⟩ dX9_log_29 ?_
        refine r_aload_n C dX9_log_32 rfl ?_
        refine r_getR C ck_9 f_0_4 (by decide) fl_X9_36 rfl dX9_log_33 ?_
        refine r_getR C ck_8 f_84_4 (by decide) fl_X9_270 rfl dX9_log_36 ?_
        refine r_iload_n C dX9_log_39 rfl ?_
        refine r_iload_n C dX9_log_40 rfl ?_
        refine bd_e h (fun v6 σ6 hf6 h => ?_)
        refine r_callVi C g_X6_partAt hc_6 o_104 ml_X9_277 (mX6_partAt hl hI  hf6) rfl rfl (by exact Nat.le_of_ble_eq_true rfl) ⟨Nat.le_of_ble_eq_true rfl, Nat.le_of_ble_eq_true rfl, Nat.le_of_ble_eq_true rfl⟩ dX9_log_41 ?_
        exact r_iret C rfl (Nat.le_of_ble_eq_true rfl) dX9_log_44 (re_xi h)
      · exact r_callSx C g_X9_checkRange ml_X9_114 (mX9_checkRange hl hI  hf5) rfl rfl (by exact Nat.le_of_ble_eq_true rfl) ⟨Nat.le_of_ble_eq_true rfl, Nat.le_of_ble_eq_true rfl, Nat.le_of_ble_eq_true rfl⟩ dX9_log_29 (re_xe h)
    · refine r_weak C [none, none, none] trivial ?_
      exact L18 _ h
set_option maxHeartbeats 4000000 in
set_option maxRecDepth 100000 in
theorem mX9_improvingShare {l : Launch} {D : va_G} {ad : Nat → Nat} {cy : Nat → ClassId} (hl : l.stackTraces = false) (hI : Inj ad)   {σ τ : Mem} {r : UInt64 ⊕ String} (h : fX9_improvingShare σ = some (r, τ)) : Co l D ad cy yX9_improvingShare cX9_improvingShare 2 (Option.some Jvm.ClassFile.FieldType.double) 6 144 1 [.ref (ad 0)] σ (zdx r) τ := by
  refine co_of (av := [.inr 0]) hl hI (by decide +kernel) (Nat.le_of_ble_eq_true rfl) [some (.inr 0), none] rfl (fun V C => ?_)
  have C : Rl l D ad cy RX9 cX9_improvingShare 2 (Option.some Jvm.ClassFile.FieldType.double) 6 144 1 (zdx r) τ V := C
  refine r_aload_n C dX9_improvingShare_0 rfl ?_
  refine r_getR C ck_9 f_0_4 (by decide) fl_X9_36 rfl dX9_improvingShare_1 ?_
  refine r_getR C ck_8 f_84_4 (by decide) fl_X9_270 rfl dX9_improvingShare_4 ?_
  refine r_getI C ck_6 f_104_2 (by decide) fl_X9_274 rfl dX9_improvingShare_7 ?_
  refine r_istore_n C (by decide) dX9_improvingShare_10 ?_
  refine r_iload_n C dX9_improvingShare_11 rfl ?_
  refine r_if_ne C (tgt := 23) h (by decide) dX9_improvingShare_12 (fun hc h => ?_) (fun hc h => ?_)
  · refine r_aload_n C dX9_improvingShare_23 rfl ?_
    refine r_getR C ck_9 f_0_4 (by decide) fl_X9_36 rfl dX9_improvingShare_24 ?_
    refine r_getR C ck_8 f_84_4 (by decide) fl_X9_270 rfl dX9_improvingShare_27 ?_
    refine bd_e h (fun v3 σ3 hf3 h => ?_)
    refine r_callVi C g_X6_improvements hc_6 o_104 ml_X9_283 (mX6_improvements hl hI  hf3) rfl rfl (by exact Nat.le_of_ble_eq_true rfl) ⟨Nat.le_of_ble_eq_true rfl, Nat.le_of_ble_eq_true rfl, Nat.le_of_ble_eq_true rfl⟩ dX9_improvingShare_30 ?_
    refine r_i2d C dX9_improvingShare_33 ?_
    refine r_iload_n C dX9_improvingShare_34 rfl ?_
    refine r_i2d C dX9_improvingShare_35 ?_
    obtain ⟨hy, h⟩ := ckd_e h
    refine r_ddiv C hy dX9_improvingShare_36 ?_
    exact r_dret C rfl (Nat.le_of_ble_eq_true rfl) dX9_improvingShare_37 (re_dxd h)
  · exact r_throw C th_X9_280 dX9_improvingShare_15 dX9_improvingShare_18 dX9_improvingShare_19 dX9_improvingShare_22 ⟨by decide, Nat.le_of_ble_eq_true rfl, by decide⟩ (re_dxe h)
set_option maxHeartbeats 4000000 in
set_option maxRecDepth 100000 in
theorem mX9_exploreAll {l : Launch} {D : va_G} {ad : Nat → Nat} {cy : Nat → ClassId} (hl : l.stackTraces = false) (hI : Inj ad)   {σ τ : Mem} {r : Unit ⊕ String} (h : fX9_exploreAll σ = some (r, τ)) : Co l D ad cy yX9_exploreAll cX9_exploreAll 1 (Option.none : Option Jvm.ClassFile.FieldType) 6 197 1 [.ref (ad 0)] σ (zu r) τ := by
  refine co_of (av := [.inr 0]) hl hI (by decide +kernel) (Nat.le_of_ble_eq_true rfl) [some (.inr 0)] rfl (fun V C => ?_)
  have C : Rl l D ad cy RX9 cX9_exploreAll 1 (Option.none : Option Jvm.ClassFile.FieldType) 6 197 1 (zu r) τ V := C
  refine r_aload_n C dX9_exploreAll_0 rfl ?_
  refine r_getR C ck_9 f_0_0 (by decide) fl_X9_12 rfl dX9_exploreAll_1 ?_
  refine bd_e h (fun v5 σ5 hf5 h => ?_)
  refine r_callVi C g_X4_combinations hc_4 o_1 ml_X9_151 (mX4_combinations hl hI  hf5) rfl rfl (by exact Nat.le_of_ble_eq_true rfl) ⟨Nat.le_of_ble_eq_true rfl, Nat.le_of_ble_eq_true rfl, Nat.le_of_ble_eq_true rfl⟩ dX9_exploreAll_4 ?_
  refine r_sipush C sp_5000 dX9_exploreAll_7 ?_
  refine r_ic_le C (tgt := 21) h (by decide) dX9_exploreAll_10 (fun hc h => ?_) (fun hc h => ?_)
  · refine r_aload_n C dX9_exploreAll_21 rfl ?_
    refine r_getR C ck_9 f_0_5 (by decide) fl_X9_43 rfl dX9_exploreAll_22 ?_
    refine r_getI C ck_7 f_113_2 (by decide) fl_X9_346 rfl dX9_exploreAll_25 ?_
    refine r_if_ne C (tgt := 42) h (by decide) dX9_exploreAll_28 (fun hc h => ?_) (fun hc h => ?_)
    · exact r_vret C rfl (Nat.le_of_ble_eq_true rfl) dX9_exploreAll_42 (re_uv h)
    · refine r_aload_n C dX9_exploreAll_31 rfl ?_
      refine r_getR C ck_9 f_0_5 (by decide) fl_X9_43 rfl dX9_exploreAll_32 ?_
      refine r_aload_n C dX9_exploreAll_35 rfl ?_
      refine r_getR C ck_9 f_0_0 (by decide) fl_X9_12 rfl dX9_exploreAll_36 ?_
      refine bv_e h (fun σ6 hf6 h => ?_)
      refine r_callVv C g_X7_explore hc_7 o_113 ml_X9_349 (mX7_explore hl hI  hf6) rfl rfl (by exact Nat.le_of_ble_eq_true rfl) ⟨Nat.le_of_ble_eq_true rfl, Nat.le_of_ble_eq_true rfl, Nat.le_of_ble_eq_true rfl⟩ dX9_exploreAll_39 ?_
      exact r_vret C rfl (Nat.le_of_ble_eq_true rfl) dX9_exploreAll_42 (re_uv h)
  · exact r_throw C th_X9_88 dX9_exploreAll_13 dX9_exploreAll_16 dX9_exploreAll_17 dX9_exploreAll_20 ⟨by decide, Nat.le_of_ble_eq_true rfl, by decide⟩ (re_ue h)
set_option maxHeartbeats 4000000 in
set_option maxRecDepth 100000 in
theorem mX9_optimum {l : Launch} {D : va_G} {ad : Nat → Nat} {cy : Nat → ClassId} (hl : l.stackTraces = false) (hI : Inj ad)   {σ τ : Mem} {r : Int32 ⊕ String} (h : fX9_optimum σ = some (r, τ)) : Co l D ad cy yX9_optimum cX9_optimum 1 (Option.some Jvm.ClassFile.FieldType.int) 7 217 1 [.ref (ad 0)] σ (zx r) τ := by
  refine co_of (av := [.inr 0]) hl hI (by decide +kernel) (Nat.le_of_ble_eq_true rfl) [some (.inr 0)] rfl (fun V C => ?_)
  have C : Rl l D ad cy RX9 cX9_optimum 1 (Option.some Jvm.ClassFile.FieldType.int) 7 217 1 (zx r) τ V := C
  refine r_aload_n C dX9_optimum_0 rfl ?_
  refine bx_e h (fun v3 σ3 hf3 h => ?_) (fun e9 σ3 hf3 h => ?_)
  · refine r_callVv C g_X9_exploreAll hc_9 o_0 ml_X9_286 (mX9_exploreAll hl hI  hf3) rfl rfl (by exact Nat.le_of_ble_eq_true rfl) ⟨Nat.le_of_ble_eq_true rfl, Nat.le_of_ble_eq_true rfl, Nat.le_of_ble_eq_true rfl⟩ dX9_optimum_1 ?_
    refine r_aload_n C dX9_optimum_4 rfl ?_
    refine r_getR C ck_9 f_0_5 (by decide) fl_X9_43 rfl dX9_optimum_5 ?_
    refine r_getI C ck_7 f_113_3 (by decide) fl_X9_289 rfl dX9_optimum_8 ?_
    exact r_iret C rfl (Nat.le_of_ble_eq_true rfl) dX9_optimum_11 (re_xi h)
  · exact r_callVx C g_X9_exploreAll hc_9 o_0 ml_X9_286 (mX9_exploreAll hl hI  hf3) rfl rfl (by exact Nat.le_of_ble_eq_true rfl) ⟨Nat.le_of_ble_eq_true rfl, Nat.le_of_ble_eq_true rfl, Nat.le_of_ble_eq_true rfl⟩ dX9_optimum_1 (re_xe h)
set_option maxHeartbeats 4000000 in
set_option maxRecDepth 100000 in
theorem mX9_optima {l : Launch} {D : va_G} {ad : Nat → Nat} {cy : Nat → ClassId} (hl : l.stackTraces = false) (hI : Inj ad)   {σ τ : Mem} {r : Int32 ⊕ String} (h : fX9_optima σ = some (r, τ)) : Co l D ad cy yX9_optima cX9_optima 1 (Option.some Jvm.ClassFile.FieldType.int) 7 217 1 [.ref (ad 0)] σ (zx r) τ := by
  refine co_of (av := [.inr 0]) hl hI (by decide +kernel) (Nat.le_of_ble_eq_true rfl) [some (.inr 0)] rfl (fun V C => ?_)
  have C : Rl l D ad cy RX9 cX9_optima 1 (Option.some Jvm.ClassFile.FieldType.int) 7 217 1 (zx r) τ V := C
  refine r_aload_n C dX9_optima_0 rfl ?_
  refine bx_e h (fun v3 σ3 hf3 h => ?_) (fun e9 σ3 hf3 h => ?_)
  · refine r_callVv C g_X9_exploreAll hc_9 o_0 ml_X9_286 (mX9_exploreAll hl hI  hf3) rfl rfl (by exact Nat.le_of_ble_eq_true rfl) ⟨Nat.le_of_ble_eq_true rfl, Nat.le_of_ble_eq_true rfl, Nat.le_of_ble_eq_true rfl⟩ dX9_optima_1 ?_
    refine r_aload_n C dX9_optima_4 rfl ?_
    refine r_getR C ck_9 f_0_5 (by decide) fl_X9_43 rfl dX9_optima_5 ?_
    refine r_getI C ck_7 f_113_4 (by decide) fl_X9_292 rfl dX9_optima_8 ?_
    exact r_iret C rfl (Nat.le_of_ble_eq_true rfl) dX9_optima_11 (re_xi h)
  · exact r_callVx C g_X9_exploreAll hc_9 o_0 ml_X9_286 (mX9_exploreAll hl hI  hf3) rfl rfl (by exact Nat.le_of_ble_eq_true rfl) ⟨Nat.le_of_ble_eq_true rfl, Nat.le_of_ble_eq_true rfl, Nat.le_of_ble_eq_true rfl⟩ dX9_optima_1 (re_xe h)
set_option maxHeartbeats 4000000 in
set_option maxRecDepth 100000 in
theorem mX9_optimalValue {l : Launch} {D : va_G} {ad : Nat → Nat} {cy : Nat → ClassId} (hl : l.stackTraces = false) (hI : Inj ad)   {σ τ : Mem} {a1 : Int32} {r : Int32 ⊕ String} (h : fX9_optimalValue σ a1 = some (r, τ)) : Co l D ad cy yX9_optimalValue cX9_optimalValue 2 (Option.some Jvm.ClassFile.FieldType.int) 7 217 2 [.ref (ad 0), .int a1] σ (zx r) τ := by
  refine co_of (av := [.inr 0, .inl a1]) hl hI (by decide +kernel) (Nat.le_of_ble_eq_true rfl) [some (.inr 0), some (.inl a1)] rfl (fun V C => ?_)
  have C : Rl l D ad cy RX9 cX9_optimalValue 2 (Option.some Jvm.ClassFile.FieldType.int) 7 217 2 (zx r) τ V := C
  refine r_aload_n C dX9_optimalValue_0 rfl ?_
  refine r_iload_n C dX9_optimalValue_1 rfl ?_
  refine bx_e h (fun v5 σ5 hf5 h => ?_) (fun e9 σ5 hf5 h => ?_)
  · refine r_callVv C g_X9_checkVariable hc_9 o_0 ml_X9_98 (mX9_checkVariable hl hI  hf5) rfl rfl (by exact Nat.le_of_ble_eq_true rfl) ⟨Nat.le_of_ble_eq_true rfl, Nat.le_of_ble_eq_true rfl, Nat.le_of_ble_eq_true rfl⟩ dX9_optimalValue_2 ?_
    refine r_aload_n C dX9_optimalValue_5 rfl ?_
    refine bx_e h (fun v6 σ6 hf6 h => ?_) (fun e9 σ6 hf6 h => ?_)
    · refine r_callVv C g_X9_exploreAll hc_9 o_0 ml_X9_286 (mX9_exploreAll hl hI  hf6) rfl rfl (by exact Nat.le_of_ble_eq_true rfl) ⟨Nat.le_of_ble_eq_true rfl, Nat.le_of_ble_eq_true rfl, Nat.le_of_ble_eq_true rfl⟩ dX9_optimalValue_6 ?_
      refine r_aload_n C dX9_optimalValue_9 rfl ?_
      refine r_getR C ck_9 f_0_5 (by decide) fl_X9_43 rfl dX9_optimalValue_10 ?_
      refine r_getR C ck_7 f_113_1 (by decide) fl_X9_295 rfl dX9_optimalValue_13 ?_
      refine r_iload_n C dX9_optimalValue_16 rfl ?_
      obtain ⟨hi, h⟩ := ck_e h
      refine r_iald C i_115 hi dX9_optimalValue_17 ?_
      exact r_iret C rfl (Nat.le_of_ble_eq_true rfl) dX9_optimalValue_18 (re_xi h)
    · exact r_callVx C g_X9_exploreAll hc_9 o_0 ml_X9_286 (mX9_exploreAll hl hI  hf6) rfl rfl (by exact Nat.le_of_ble_eq_true rfl) ⟨Nat.le_of_ble_eq_true rfl, Nat.le_of_ble_eq_true rfl, Nat.le_of_ble_eq_true rfl⟩ dX9_optimalValue_6 (re_xe h)
  · exact r_callVx C g_X9_checkVariable hc_9 o_0 ml_X9_98 (mX9_checkVariable hl hI  hf5) rfl rfl (by exact Nat.le_of_ble_eq_true rfl) ⟨Nat.le_of_ble_eq_true rfl, Nat.le_of_ble_eq_true rfl, Nat.le_of_ble_eq_true rfl⟩ dX9_optimalValue_2 (re_xe h)
set_option maxHeartbeats 4000000 in
set_option maxRecDepth 100000 in
theorem mX9_worst {l : Launch} {D : va_G} {ad : Nat → Nat} {cy : Nat → ClassId} (hl : l.stackTraces = false) (hI : Inj ad)   {σ τ : Mem} {r : Int32 ⊕ String} (h : fX9_worst σ = some (r, τ)) : Co l D ad cy yX9_worst cX9_worst 1 (Option.some Jvm.ClassFile.FieldType.int) 7 217 1 [.ref (ad 0)] σ (zx r) τ := by
  refine co_of (av := [.inr 0]) hl hI (by decide +kernel) (Nat.le_of_ble_eq_true rfl) [some (.inr 0)] rfl (fun V C => ?_)
  have C : Rl l D ad cy RX9 cX9_worst 1 (Option.some Jvm.ClassFile.FieldType.int) 7 217 1 (zx r) τ V := C
  refine r_aload_n C dX9_worst_0 rfl ?_
  refine bx_e h (fun v3 σ3 hf3 h => ?_) (fun e9 σ3 hf3 h => ?_)
  · refine r_callVv C g_X9_exploreAll hc_9 o_0 ml_X9_286 (mX9_exploreAll hl hI  hf3) rfl rfl (by exact Nat.le_of_ble_eq_true rfl) ⟨Nat.le_of_ble_eq_true rfl, Nat.le_of_ble_eq_true rfl, Nat.le_of_ble_eq_true rfl⟩ dX9_worst_1 ?_
    refine r_aload_n C dX9_worst_4 rfl ?_
    refine r_getR C ck_9 f_0_5 (by decide) fl_X9_43 rfl dX9_worst_5 ?_
    refine r_getI C ck_7 f_113_5 (by decide) fl_X9_298 rfl dX9_worst_8 ?_
    exact r_iret C rfl (Nat.le_of_ble_eq_true rfl) dX9_worst_11 (re_xi h)
  · exact r_callVx C g_X9_exploreAll hc_9 o_0 ml_X9_286 (mX9_exploreAll hl hI  hf3) rfl rfl (by exact Nat.le_of_ble_eq_true rfl) ⟨Nat.le_of_ble_eq_true rfl, Nat.le_of_ble_eq_true rfl, Nat.le_of_ble_eq_true rfl⟩ dX9_worst_1 (re_xe h)
set_option maxHeartbeats 4000000 in
set_option maxRecDepth 100000 in
theorem mX9_unavoidable {l : Launch} {D : va_G} {ad : Nat → Nat} {cy : Nat → ClassId} (hl : l.stackTraces = false) (hI : Inj ad)   {σ τ : Mem} {r : Int32 ⊕ String} (h : fX9_unavoidable σ = some (r, τ)) : Co l D ad cy yX9_unavoidable cX9_unavoidable 1 (Option.some Jvm.ClassFile.FieldType.int) 7 217 1 [.ref (ad 0)] σ (zx r) τ := by
  refine co_of (av := [.inr 0]) hl hI (by decide +kernel) (Nat.le_of_ble_eq_true rfl) [some (.inr 0)] rfl (fun V C => ?_)
  have C : Rl l D ad cy RX9 cX9_unavoidable 1 (Option.some Jvm.ClassFile.FieldType.int) 7 217 1 (zx r) τ V := C
  refine r_aload_n C dX9_unavoidable_0 rfl ?_
  refine bx_e h (fun v5 σ5 hf5 h => ?_) (fun e9 σ5 hf5 h => ?_)
  · refine r_callVv C g_X9_exploreAll hc_9 o_0 ml_X9_286 (mX9_exploreAll hl hI  hf5) rfl rfl (by exact Nat.le_of_ble_eq_true rfl) ⟨Nat.le_of_ble_eq_true rfl, Nat.le_of_ble_eq_true rfl, Nat.le_of_ble_eq_true rfl⟩ dX9_unavoidable_1 ?_
    refine r_aload_n C dX9_unavoidable_4 rfl ?_
    refine r_getR C ck_9 f_0_5 (by decide) fl_X9_43 rfl dX9_unavoidable_5 ?_
    refine r_getI C ck_7 f_113_6 (by decide) fl_X9_301 rfl dX9_unavoidable_8 ?_
    refine bd_e h (fun v6 σ6 hf6 h => ?_)
    refine r_callSi C g_J6_bitCount_0f7a4 ml_X9_118 (mJ6_bitCount_0f7a4 hl hI  hf6) rfl rfl (by exact Nat.le_of_ble_eq_true rfl) ⟨Nat.le_of_ble_eq_true rfl, Nat.le_of_ble_eq_true rfl, Nat.le_of_ble_eq_true rfl⟩ dX9_unavoidable_11 ?_
    exact r_iret C rfl (Nat.le_of_ble_eq_true rfl) dX9_unavoidable_14 (re_xi h)
  · exact r_callVx C g_X9_exploreAll hc_9 o_0 ml_X9_286 (mX9_exploreAll hl hI  hf5) rfl rfl (by exact Nat.le_of_ble_eq_true rfl) ⟨Nat.le_of_ble_eq_true rfl, Nat.le_of_ble_eq_true rfl, Nat.le_of_ble_eq_true rfl⟩ dX9_unavoidable_1 (re_xe h)
set_option maxHeartbeats 4000000 in
set_option maxRecDepth 100000 in
theorem mX9_append {l : Launch} {D : va_G} {ad : Nat → Nat} {cy : Nat → ClassId} (hl : l.stackTraces = false) (hI : Inj ad)   {σ τ : Mem} {a1 : Int32} {r : Int32 ⊕ String} (h : fX9_append σ a1 = some (r, τ)) : Co l D ad cy yX9_append cX9_append 2 (Option.some Jvm.ClassFile.FieldType.int) 7 122 2 [.ref (ad 0), .int a1] σ (zx r) τ := by
  refine co_of (av := [.inr 0, .inl a1]) hl hI (by decide +kernel) (Nat.le_of_ble_eq_true rfl) [some (.inr 0), some (.inl a1)] rfl (fun V C => ?_)
  have C : Rl l D ad cy RX9 cX9_append 2 (Option.some Jvm.ClassFile.FieldType.int) 7 122 2 (zx r) τ V := C
  refine r_iload_n C dX9_append_0 rfl ?_
  refine r_bipush C bp_32 dX9_append_1 ?_
  refine r_bipush C bp_126 dX9_append_3 ?_
  refine bx_e h (fun v5 σ5 hf5 h => ?_) (fun e9 σ5 hf5 h => ?_)
  · refine r_callSv C g_X9_checkRange ml_X9_114 (mX9_checkRange hl hI  hf5) rfl rfl (by exact Nat.le_of_ble_eq_true rfl) ⟨Nat.le_of_ble_eq_true rfl, Nat.le_of_ble_eq_true rfl, Nat.le_of_ble_eq_true rfl⟩ dX9_append_5 ?_
    refine r_aload_n C dX9_append_8 rfl ?_
    refine r_getR C ck_9 f_0_6 (by decide) fl_X9_50 rfl dX9_append_9 ?_
    refine r_getI C ck_2 f_116_1 (by decide) fl_X9_304 rfl dX9_append_12 ?_
    refine r_bipush C bp_60 dX9_append_15 ?_
    refine r_ic_lt C (tgt := 28) h (by decide) dX9_append_17 (fun hc h => ?_) (fun hc h => ?_)
    · refine r_aload_n C dX9_append_28 rfl ?_
      refine r_getR C ck_9 f_0_6 (by decide) fl_X9_50 rfl dX9_append_29 ?_
      refine r_iload_n C dX9_append_32 rfl ?_
      refine bv_e h (fun σ6 hf6 h => ?_)
      refine r_callVv C g_X2_put hc_2 o_116 ml_X9_307 (mX2_put hl hI  hf6) rfl rfl (by exact Nat.le_of_ble_eq_true rfl) ⟨Nat.le_of_ble_eq_true rfl, Nat.le_of_ble_eq_true rfl, Nat.le_of_ble_eq_true rfl⟩ dX9_append_33 ?_
      refine r_aload_n C dX9_append_36 rfl ?_
      refine r_getR C ck_9 f_0_6 (by decide) fl_X9_50 rfl dX9_append_37 ?_
      refine r_getI C ck_2 f_116_1 (by decide) fl_X9_304 rfl dX9_append_40 ?_
      exact r_iret C rfl (Nat.le_of_ble_eq_true rfl) dX9_append_43 (re_xi h)
    · exact r_throw C th_X9_88 dX9_append_20 dX9_append_23 dX9_append_24 dX9_append_27 ⟨by decide, Nat.le_of_ble_eq_true rfl, by decide⟩ (re_xe h)
  · exact r_callSx C g_X9_checkRange ml_X9_114 (mX9_checkRange hl hI  hf5) rfl rfl (by exact Nat.le_of_ble_eq_true rfl) ⟨Nat.le_of_ble_eq_true rfl, Nat.le_of_ble_eq_true rfl, Nat.le_of_ble_eq_true rfl⟩ dX9_append_5 (re_xe h)
set_option maxHeartbeats 4000000 in
set_option maxRecDepth 100000 in
theorem mX9_read {l : Launch} {D : va_G} {ad : Nat → Nat} {cy : Nat → ClassId} (hl : l.stackTraces = false) (hI : Inj ad)   {σ τ : Mem} {r : Int32 ⊕ String} (h : fX9_read σ = some (r, τ)) : Co l D ad cy yX9_read cX9_read 2 (Option.some Jvm.ClassFile.FieldType.int) 7 233 1 [.ref (ad 0)] σ (zx r) τ := by
  refine co_of (av := [.inr 0]) hl hI (by decide +kernel) (Nat.le_of_ble_eq_true rfl) [some (.inr 0), none] rfl (fun V C => ?_)
  have C : Rl l D ad cy RX9 cX9_read 2 (Option.some Jvm.ClassFile.FieldType.int) 7 233 1 (zx r) τ V := C
  refine r_aload_n C dX9_read_0 rfl ?_
  refine r_getR C ck_9 f_0_6 (by decide) fl_X9_50 rfl dX9_read_1 ?_
  refine bd_e h (fun v15 σ15 hf15 h => ?_)
  refine r_callVi C g_X2_parse hc_2 o_116 ml_X9_311 (mX2_parse hl hI  hf15) rfl rfl (by exact Nat.le_of_ble_eq_true rfl) ⟨Nat.le_of_ble_eq_true rfl, Nat.le_of_ble_eq_true rfl, Nat.le_of_ble_eq_true rfl⟩ dX9_read_4 ?_
  refine r_istore_n C (by decide) dX9_read_7 ?_
  refine r_aload_n C dX9_read_8 rfl ?_
  refine r_getR C ck_9 f_0_6 (by decide) fl_X9_50 rfl dX9_read_9 ?_
  refine r_iconst C ic_0 dX9_read_12 ?_
  refine r_putI C ck_2 f_116_1 (by decide) fl_X9_304 rfl rfl rfl rfl rfl dX9_read_13 h (fun σ16 h => ?_)
  refine r_iload_n C dX9_read_16 rfl ?_
  refine r_if_ne C (tgt := 39) h (by decide) dX9_read_17 (fun hc h => ?_) (fun hc h => ?_)
  · refine r_aload_n C dX9_read_39 rfl ?_
    refine r_getR C ck_9 f_0_6 (by decide) fl_X9_50 rfl dX9_read_40 ?_
    refine r_aload_n C dX9_read_43 rfl ?_
    refine r_getR C ck_9 f_0_0 (by decide) fl_X9_12 rfl dX9_read_44 ?_
    refine bd_e h (fun v17 σ17 hf17 h => ?_)
    refine r_callVi C g_X2_fits hc_2 o_116 ml_X9_318 (mX2_fits hl hI  hf17) rfl rfl (by exact Nat.le_of_ble_eq_true rfl) ⟨Nat.le_of_ble_eq_true rfl, Nat.le_of_ble_eq_true rfl, Nat.le_of_ble_eq_true rfl⟩ dX9_read_47 ?_
    refine r_if_ne C (tgt := 61) h (by decide) dX9_read_50 (fun hc h => ?_) (fun hc h => ?_)
    · refine r_aload_n C dX9_read_61 rfl ?_
      refine r_getR C ck_9 f_0_2 (by decide) fl_X9_22 rfl dX9_read_62 ?_
      refine r_aload_n C dX9_read_65 rfl ?_
      refine r_getR C ck_9 f_0_0 (by decide) fl_X9_12 rfl dX9_read_66 ?_
      refine bv_e h (fun σ18 hf18 h => ?_)
      refine r_callVv C g_X1_remember hc_1 o_81 ml_X9_91 (mX1_remember hl hI  hf18) rfl rfl (by exact Nat.le_of_ble_eq_true rfl) ⟨Nat.le_of_ble_eq_true rfl, Nat.le_of_ble_eq_true rfl, Nat.le_of_ble_eq_true rfl⟩ dX9_read_69 ?_
      refine r_aload_n C dX9_read_72 rfl ?_
      refine r_getR C ck_9 f_0_6 (by decide) fl_X9_50 rfl dX9_read_73 ?_
      refine r_aload_n C dX9_read_76 rfl ?_
      refine r_getR C ck_9 f_0_0 (by decide) fl_X9_12 rfl dX9_read_77 ?_
      refine bv_e h (fun σ19 hf19 h => ?_)
      refine r_callVv C g_X2_addTo hc_2 o_116 ml_X9_322 (mX2_addTo hl hI  hf19) rfl rfl (by exact Nat.le_of_ble_eq_true rfl) ⟨Nat.le_of_ble_eq_true rfl, Nat.le_of_ble_eq_true rfl, Nat.le_of_ble_eq_true rfl⟩ dX9_read_80 ?_
      refine r_aload_n C dX9_read_83 rfl ?_
      refine bv_e h (fun σ20 hf20 h => ?_)
      refine r_callVv C g_X9_beginSearch hc_9 o_0 ml_X9_81 (mX9_beginSearch hl hI  hf20) rfl rfl (by exact Nat.le_of_ble_eq_true rfl) ⟨Nat.le_of_ble_eq_true rfl, Nat.le_of_ble_eq_true rfl, Nat.le_of_ble_eq_true rfl⟩ dX9_read_84 ?_
      refine r_aload_n C dX9_read_87 rfl ?_
      refine r_getR C ck_9 f_0_6 (by decide) fl_X9_50 rfl dX9_read_88 ?_
      refine r_getI C ck_2 f_116_7 (by decide) fl_X9_325 rfl dX9_read_91 ?_
      exact r_iret C rfl (Nat.le_of_ble_eq_true rfl) dX9_read_94 (re_xi h)
    · exact r_throw C th_X9_88 dX9_read_53 dX9_read_56 dX9_read_57 dX9_read_60 ⟨by decide, Nat.le_of_ble_eq_true rfl, by decide⟩ (re_xe h)
  · refine r_aload_n C dX9_read_20 rfl ?_
    refine r_aload_n C dX9_read_21 rfl ?_
    refine r_getR C ck_9 f_0_6 (by decide) fl_X9_50 rfl dX9_read_22 ?_
    refine r_getI C ck_2 f_116_2 (by decide) fl_X9_315 rfl dX9_read_25 ?_
    refine r_putI C ck_9 f_0_9 (by decide) fl_X9_65 rfl rfl rfl rfl rfl dX9_read_28 h (fun σ21 h => ?_)
    exact r_throw C th_X9_128 dX9_read_31 dX9_read_34 dX9_read_35 dX9_read_38 ⟨by decide, Nat.le_of_ble_eq_true rfl, by decide⟩ (re_xe h)
set_option maxHeartbeats 4000000 in
set_option maxRecDepth 100000 in
theorem mX9_errorPosition {l : Launch} {D : va_G} {ad : Nat → Nat} {cy : Nat → ClassId} (hl : l.stackTraces = false) (hI : Inj ad)   {σ τ : Mem} {r : Int32 ⊕ String} (h : fX9_errorPosition σ = some (r, τ)) : Co l D ad cy yX9_errorPosition cX9_errorPosition 1 (Option.some Jvm.ClassFile.FieldType.int) 6 100 1 [.ref (ad 0)] σ (zx r) τ := by
  refine co_of (av := [.inr 0]) hl hI (by decide +kernel) (Nat.le_of_ble_eq_true rfl) [some (.inr 0)] rfl (fun V C => ?_)
  have C : Rl l D ad cy RX9 cX9_errorPosition 1 (Option.some Jvm.ClassFile.FieldType.int) 6 100 1 (zx r) τ V := C
  refine r_aload_n C dX9_errorPosition_0 rfl ?_
  refine r_getI C ck_9 f_0_9 (by decide) fl_X9_65 rfl dX9_errorPosition_1 ?_
  refine r_iconst C ic_m1 dX9_errorPosition_4 ?_
  refine r_ic_ne C (tgt := 16) h (by decide) dX9_errorPosition_5 (fun hc h => ?_) (fun hc h => ?_)
  · refine r_aload_n C dX9_errorPosition_16 rfl ?_
    refine r_getI C ck_9 f_0_9 (by decide) fl_X9_65 rfl dX9_errorPosition_17 ?_
    exact r_iret C rfl (Nat.le_of_ble_eq_true rfl) dX9_errorPosition_20 (re_xi h)
  · exact r_throw C th_X9_182 dX9_errorPosition_8 dX9_errorPosition_11 dX9_errorPosition_12 dX9_errorPosition_15 ⟨by decide, Nat.le_of_ble_eq_true rfl, by decide⟩ (re_xe h)
set_option maxHeartbeats 4000000 in
set_option maxRecDepth 100000 in
theorem mX9_describe {l : Launch} {D : va_G} {ad : Nat → Nat} {cy : Nat → ClassId} (hl : l.stackTraces = false) (hI : Inj ad)   {σ τ : Mem} {a1 a2 : Int32} {r : Int32 ⊕ String} (h : fX9_describe σ a1 a2 = some (r, τ)) : Co l D ad cy yX9_describe cX9_describe 3 (Option.some Jvm.ClassFile.FieldType.int) 7 166 2 [.ref (ad 0), .int a1, .int a2] σ (zx r) τ := by
  refine co_of (av := [.inr 0, .inl a1, .inl a2]) hl hI (by decide +kernel) (Nat.le_of_ble_eq_true rfl) [some (.inr 0), some (.inl a1), some (.inl a2)] rfl (fun V C => ?_)
  have C : Rl l D ad cy RX9 cX9_describe 3 (Option.some Jvm.ClassFile.FieldType.int) 7 166 2 (zx r) τ V := C
  have L45 : ∀ (σ : Mem), fX9_describe_L45   σ  = some (r, τ) → V 1 σ 45 [none, none, none] [] := by
    intro  σ  h
    exact r_throw C th_X9_182 dX9_describe_45 dX9_describe_48 dX9_describe_49 dX9_describe_52 ⟨by decide, Nat.le_of_ble_eq_true rfl, by decide⟩ (re_xe h)
  refine r_aload_n C dX9_describe_0 rfl ?_
  refine r_iload_n C dX9_describe_1 rfl ?_
  refine bx_e h (fun v5 σ5 hf5 h => ?_) (fun e9 σ5 hf5 h => ?_)
  · refine r_callVv C g_X9_checkConstraint hc_9 o_0 ml_X9_138 (mX9_checkConstraint hl hI  hf5) rfl rfl (by exact Nat.le_of_ble_eq_true rfl) ⟨Nat.le_of_ble_eq_true rfl, Nat.le_of_ble_eq_true rfl, Nat.le_of_ble_eq_true rfl⟩ dX9_describe_2 ?_
    refine r_aload_n C dX9_describe_5 rfl ?_
    refine r_getR C ck_9 f_0_7 (by decide) fl_X9_57 rfl dX9_describe_6 ?_
    refine r_aload_n C dX9_describe_9 rfl ?_
    refine r_getR C ck_9 f_0_0 (by decide) fl_X9_12 rfl dX9_describe_10 ?_
    refine r_iload_n C dX9_describe_13 rfl ?_
    refine bv_e h (fun σ6 hf6 h => ?_)
    refine r_callVv C g_X0_write hc_0 o_122 ml_X9_328 (mX0_write hl hI  hf6) rfl rfl (by exact Nat.le_of_ble_eq_true rfl) ⟨Nat.le_of_ble_eq_true rfl, Nat.le_of_ble_eq_true rfl, Nat.le_of_ble_eq_true rfl⟩ dX9_describe_14 ?_
    refine r_iload_n C dX9_describe_17 rfl ?_
    refine r_iconst C ic_m1 dX9_describe_18 ?_
    refine r_ic_ne C (tgt := 30) h (by decide) dX9_describe_19 (fun hc h => ?_) (fun hc h => ?_)
    · refine r_iload_n C dX9_describe_30 rfl ?_
      refine r_if_lt C (tgt := 45) h (by decide) dX9_describe_31 (fun hc h => ?_) (fun hc h => ?_)
      · refine r_weak C [none, none, none] trivial ?_
        exact L45 _ h
      · refine r_iload_n C dX9_describe_34 rfl ?_
        refine r_aload_n C dX9_describe_35 rfl ?_
        refine r_getR C ck_9 f_0_7 (by decide) fl_X9_57 rfl dX9_describe_36 ?_
        refine r_getI C ck_0 f_122_1 (by decide) fl_X9_331 rfl dX9_describe_39 ?_
        refine r_ic_lt C (tgt := 53) h (by decide) dX9_describe_42 (fun hc h => ?_) (fun hc h => ?_)
        · refine r_aload_n C dX9_describe_53 rfl ?_
          refine r_getR C ck_9 f_0_7 (by decide) fl_X9_57 rfl dX9_describe_54 ?_
          refine r_getR C ck_0 f_122_0 (by decide) fl_X9_332 rfl dX9_describe_57 ?_
          refine r_iload_n C dX9_describe_60 rfl ?_
          obtain ⟨hi, h⟩ := ck_e h
          refine r_cald C i_123 hi dX9_describe_61 ?_
          exact r_iret C rfl (Nat.le_of_ble_eq_true rfl) dX9_describe_62 (re_xi h)
        · refine r_weak C [none, none, none] trivial ?_
          exact L45 _ h
    · refine r_aload_n C dX9_describe_22 rfl ?_
      refine r_getR C ck_9 f_0_7 (by decide) fl_X9_57 rfl dX9_describe_23 ?_
      refine r_getI C ck_0 f_122_1 (by decide) fl_X9_331 rfl dX9_describe_26 ?_
      exact r_iret C rfl (Nat.le_of_ble_eq_true rfl) dX9_describe_29 (re_xi h)
  · exact r_callVx C g_X9_checkConstraint hc_9 o_0 ml_X9_138 (mX9_checkConstraint hl hI  hf5) rfl rfl (by exact Nat.le_of_ble_eq_true rfl) ⟨Nat.le_of_ble_eq_true rfl, Nat.le_of_ble_eq_true rfl, Nat.le_of_ble_eq_true rfl⟩ dX9_describe_2 (re_xe h)
set_option maxHeartbeats 4000000 in
set_option maxRecDepth 100000 in
theorem mX9_undo {l : Launch} {D : va_G} {ad : Nat → Nat} {cy : Nat → ClassId} (hl : l.stackTraces = false) (hI : Inj ad)   {σ τ : Mem} {r : Int32 ⊕ String} (h : fX9_undo σ = some (r, τ)) : Co l D ad cy yX9_undo cX9_undo 1 (Option.some Jvm.ClassFile.FieldType.int) 7 233 1 [.ref (ad 0)] σ (zx r) τ := by
  refine co_of (av := [.inr 0]) hl hI (by decide +kernel) (Nat.le_of_ble_eq_true rfl) [some (.inr 0)] rfl (fun V C => ?_)
  have C : Rl l D ad cy RX9 cX9_undo 1 (Option.some Jvm.ClassFile.FieldType.int) 7 233 1 (zx r) τ V := C
  refine r_aload_n C dX9_undo_0 rfl ?_
  refine r_getR C ck_9 f_0_2 (by decide) fl_X9_22 rfl dX9_undo_1 ?_
  refine r_getI C ck_1 f_81_2 (by decide) fl_X9_336 rfl dX9_undo_4 ?_
  refine r_if_ne C (tgt := 18) h (by decide) dX9_undo_7 (fun hc h => ?_) (fun hc h => ?_)
  · refine r_aload_n C dX9_undo_18 rfl ?_
    refine r_getR C ck_9 f_0_2 (by decide) fl_X9_22 rfl dX9_undo_19 ?_
    refine r_aload_n C dX9_undo_22 rfl ?_
    refine r_getR C ck_9 f_0_0 (by decide) fl_X9_12 rfl dX9_undo_23 ?_
    refine bv_e h (fun σ5 hf5 h => ?_)
    refine r_callVv C g_X1_bringBack hc_1 o_81 ml_X9_337 (mX1_bringBack hl hI  hf5) rfl rfl (by exact Nat.le_of_ble_eq_true rfl) ⟨Nat.le_of_ble_eq_true rfl, Nat.le_of_ble_eq_true rfl, Nat.le_of_ble_eq_true rfl⟩ dX9_undo_26 ?_
    refine r_aload_n C dX9_undo_29 rfl ?_
    refine bv_e h (fun σ6 hf6 h => ?_)
    refine r_callVv C g_X9_beginSearch hc_9 o_0 ml_X9_81 (mX9_beginSearch hl hI  hf6) rfl rfl (by exact Nat.le_of_ble_eq_true rfl) ⟨Nat.le_of_ble_eq_true rfl, Nat.le_of_ble_eq_true rfl, Nat.le_of_ble_eq_true rfl⟩ dX9_undo_30 ?_
    refine r_aload_n C dX9_undo_33 rfl ?_
    refine r_getR C ck_9 f_0_2 (by decide) fl_X9_22 rfl dX9_undo_34 ?_
    refine r_getI C ck_1 f_81_2 (by decide) fl_X9_336 rfl dX9_undo_37 ?_
    exact r_iret C rfl (Nat.le_of_ble_eq_true rfl) dX9_undo_40 (re_xi h)
  · exact r_throw C th_X9_182 dX9_undo_10 dX9_undo_13 dX9_undo_14 dX9_undo_17 ⟨by decide, Nat.le_of_ble_eq_true rfl, by decide⟩ (re_xe h)
set_option maxHeartbeats 4000000 in
set_option maxRecDepth 100000 in
theorem mX9_save {l : Launch} {D : va_G} {ad : Nat → Nat} {cy : Nat → ClassId} (hl : l.stackTraces = false) (hI : Inj ad)   {σ τ : Mem} {r : Int32} (h : fX9_save σ = some (r, τ)) : Co l D ad cy yX9_save cX9_save 1 (Option.some Jvm.ClassFile.FieldType.int) 2 121 0 [.ref (ad 0)] σ (zi r) τ := by
  refine co_of (av := [.inr 0]) hl hI (by decide +kernel) (Nat.le_of_ble_eq_true rfl) [some (.inr 0)] rfl (fun V C => ?_)
  have C : Rl l D ad cy RX9 cX9_save 1 (Option.some Jvm.ClassFile.FieldType.int) 2 121 0 (zi r) τ V := C
  refine r_aload_n C dX9_save_0 rfl ?_
  refine r_getR C ck_9 f_0_1 (by decide) fl_X9_16 rfl dX9_save_1 ?_
  refine r_aload_n C dX9_save_4 rfl ?_
  refine r_getR C ck_9 f_0_0 (by decide) fl_X9_12 rfl dX9_save_5 ?_
  refine bv_e h (fun σ5 hf5 h => ?_)
  refine r_callVv C g_X4_copyFrom hc_4 o_9 ml_X9_340 (mX4_copyFrom hl hI (⟨1, by decide, rfl⟩ : isP 9) (⟨0, by decide, rfl⟩ : isP 1) hf5) rfl rfl (by exact Nat.le_of_ble_eq_true rfl) ⟨Nat.le_of_ble_eq_true rfl, Nat.le_of_ble_eq_true rfl, Nat.le_of_ble_eq_true rfl⟩ dX9_save_8 ?_
  refine r_aload_n C dX9_save_11 rfl ?_
  refine r_iconst C ic_1 dX9_save_12 ?_
  refine r_putI C ck_9 f_0_8 (by decide) fl_X9_61 rfl rfl rfl rfl rfl dX9_save_13 h (fun σ6 h => ?_)
  refine r_aload_n C dX9_save_16 rfl ?_
  refine r_getR C ck_9 f_0_1 (by decide) fl_X9_16 rfl dX9_save_17 ?_
  refine r_getI C ck_4 (fP_7 (⟨1, by decide, rfl⟩ : isP 9)) (by decide) fl_X9_69 rfl dX9_save_20 ?_
  exact r_iret C rfl (Nat.le_of_ble_eq_true rfl) dX9_save_23 (re_i h)
set_option maxHeartbeats 4000000 in
set_option maxRecDepth 100000 in
theorem mX9_restore {l : Launch} {D : va_G} {ad : Nat → Nat} {cy : Nat → ClassId} (hl : l.stackTraces = false) (hI : Inj ad)   {σ τ : Mem} {r : Int32 ⊕ String} (h : fX9_restore σ = some (r, τ)) : Co l D ad cy yX9_restore cX9_restore 1 (Option.some Jvm.ClassFile.FieldType.int) 7 233 1 [.ref (ad 0)] σ (zx r) τ := by
  refine co_of (av := [.inr 0]) hl hI (by decide +kernel) (Nat.le_of_ble_eq_true rfl) [some (.inr 0)] rfl (fun V C => ?_)
  have C : Rl l D ad cy RX9 cX9_restore 1 (Option.some Jvm.ClassFile.FieldType.int) 7 233 1 (zx r) τ V := C
  refine r_aload_n C dX9_restore_0 rfl ?_
  refine r_getI C ck_9 f_0_8 (by decide) fl_X9_61 rfl dX9_restore_1 ?_
  refine r_if_ne C (tgt := 15) h (by decide) dX9_restore_4 (fun hc h => ?_) (fun hc h => ?_)
  · refine r_aload_n C dX9_restore_15 rfl ?_
    refine r_getR C ck_9 f_0_0 (by decide) fl_X9_12 rfl dX9_restore_16 ?_
    refine r_aload_n C dX9_restore_19 rfl ?_
    refine r_getR C ck_9 f_0_1 (by decide) fl_X9_16 rfl dX9_restore_20 ?_
    refine bv_e h (fun σ7 hf7 h => ?_)
    refine r_callVv C g_X4_copyFrom hc_4 o_1 ml_X9_340 (mX4_copyFrom hl hI (⟨0, by decide, rfl⟩ : isP 1) (⟨1, by decide, rfl⟩ : isP 9) hf7) rfl rfl (by exact Nat.le_of_ble_eq_true rfl) ⟨Nat.le_of_ble_eq_true rfl, Nat.le_of_ble_eq_true rfl, Nat.le_of_ble_eq_true rfl⟩ dX9_restore_23 ?_
    refine r_aload_n C dX9_restore_26 rfl ?_
    refine r_getR C ck_9 f_0_2 (by decide) fl_X9_22 rfl dX9_restore_27 ?_
    refine bv_e h (fun σ8 hf8 h => ?_)
    refine r_callVv C g_X1_forget hc_1 o_81 ml_X9_75 (mX1_forget hl hI  hf8) rfl rfl (by exact Nat.le_of_ble_eq_true rfl) ⟨Nat.le_of_ble_eq_true rfl, Nat.le_of_ble_eq_true rfl, Nat.le_of_ble_eq_true rfl⟩ dX9_restore_30 ?_
    refine r_aload_n C dX9_restore_33 rfl ?_
    refine bv_e h (fun σ9 hf9 h => ?_)
    refine r_callVv C g_X9_beginSearch hc_9 o_0 ml_X9_81 (mX9_beginSearch hl hI  hf9) rfl rfl (by exact Nat.le_of_ble_eq_true rfl) ⟨Nat.le_of_ble_eq_true rfl, Nat.le_of_ble_eq_true rfl, Nat.le_of_ble_eq_true rfl⟩ dX9_restore_34 ?_
    refine r_aload_n C dX9_restore_37 rfl ?_
    refine r_getR C ck_9 f_0_0 (by decide) fl_X9_12 rfl dX9_restore_38 ?_
    refine r_getI C ck_4 f_1_7 (by decide) fl_X9_69 rfl dX9_restore_41 ?_
    exact r_iret C rfl (Nat.le_of_ble_eq_true rfl) dX9_restore_44 (re_xi h)
  · exact r_throw C th_X9_88 dX9_restore_7 dX9_restore_10 dX9_restore_11 dX9_restore_14 ⟨by decide, Nat.le_of_ble_eq_true rfl, by decide⟩ (re_xe h)
