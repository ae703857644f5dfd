set_option maxHeartbeats 4000000 in
set_option maxRecDepth 100000 in
theorem mX8_freeAll {l : Launch} {D : va_G} {ad : Nat → Nat} {cy : Nat → ClassId} (hl : l.stackTraces = false) (hI : Inj ad)   {σ τ : Mem} (h : fX8_freeAll σ = some τ) : Co l D ad cy yX8_freeAll cX8_freeAll 2 (Option.none : Option Jvm.ClassFile.FieldType) 2 123 0 [.ref (ad 84)] σ (zv) τ := by
  refine co_of (av := [.inr 84]) hl hI (by decide +kernel) (Nat.le_of_ble_eq_true rfl) [some (.inr 84), none] rfl (fun V C => ?_)
  have C : Rl l D ad cy RX8 cX8_freeAll 2 (Option.none : Option Jvm.ClassFile.FieldType) 2 123 0 (zv) τ V := C
  have L2 : ∀ (n : Nat) (σ : Mem) (l1 : Int32), fX8_freeAll_L2  n σ l1 = some τ → V 0 σ 2 [some (.inr 84), some (.inl l1)] [] := by
    intro n2
    induction n2 with
    | zero => intro σ l1 h; exact no_e h
    | succ n2 ih2 =>
      intro σ l1 h
      have h : fX8_freeAll_B2  (fX8_freeAll_L2  n2) σ l1 = some τ := h
      refine r_iload_n C dX8_freeAll_2 rfl ?_
      refine r_bipush C bp_10 dX8_freeAll_3 ?_
      refine r_ic_ge C (tgt := 24) h (by decide) dX8_freeAll_5 (fun hc h => ?_) (fun hc h => ?_)
      · exact r_vret C rfl (Nat.le_of_ble_eq_true rfl) dX8_freeAll_24 (re_v h)
      · refine r_aload_n C dX8_freeAll_8 rfl ?_
        refine r_getR C ck_8 f_84_2 (by decide) fl_X8_20 rfl dX8_freeAll_9 ?_
        refine r_iload_n C dX8_freeAll_12 rfl ?_
        obtain ⟨ha5, h⟩ := ck_e h
        refine r_rrald C _ a_87 ha5 rfl dX8_freeAll_13 ?_
        refine r_iconst C ic_0 dX8_freeAll_14 ?_
        refine bv_e h (fun σ6 hf6 h => ?_)
        refine r_callSv C g_J7_fill_53178 ml_X8_78 (mJ7_fill_53178 hl hI (row_87 ha5) hf6) rfl rfl (by exact Nat.le_of_ble_eq_true rfl) ⟨Nat.le_of_ble_eq_true rfl, Nat.le_of_ble_eq_true rfl, Nat.le_of_ble_eq_true rfl⟩ dX8_freeAll_15 ?_
        refine r_iinc C ic_1 (by decide) dX8_freeAll_18 rfl ?_
        refine r_goto C (tgt := 2) (by decide) dX8_freeAll_21 ?_
        exact ih2 _ _ h
  refine r_iconst C ic_0 dX8_freeAll_0 ?_
  refine r_istore_n C (by decide) dX8_freeAll_1 ?_
  exact L2 FU _ _ h
set_option maxHeartbeats 4000000 in
set_option maxRecDepth 100000 in
theorem mX8_keepBest {l : Launch} {D : va_G} {ad : Nat → Nat} {cy : Nat → ClassId} (hl : l.stackTraces = false) (hI : Inj ad)   {σ τ : Mem} {a2 : Int32} (h : fX8_keepBest σ a2 = some τ) : Co l D ad cy yX8_keepBest cX8_keepBest 3 (Option.none : Option Jvm.ClassFile.FieldType) 1 100 0 [.ref (ad 84), .ref (ad 1), .int a2] σ (zv) τ := by
  refine co_of (av := [.inr 84, .inr 1, .inl a2]) hl hI (by decide +kernel) (Nat.le_of_ble_eq_true rfl) [some (.inr 84), some (.inr 1), some (.inl a2)] rfl (fun V C => ?_)
  have C : Rl l D ad cy RX8 cX8_keepBest 3 (Option.none : Option Jvm.ClassFile.FieldType) 1 100 0 (zv) τ V := C
  refine r_aload_n C dX8_keepBest_0 rfl ?_
  refine r_getR C ck_4 f_1_1 (by decide) fl_X8_69 rfl dX8_keepBest_1 ?_
  refine r_iconst C ic_0 dX8_keepBest_4 ?_
  refine r_aload_n C dX8_keepBest_5 rfl ?_
  refine r_getR C ck_8 f_84_0 (by decide) fl_X8_9 rfl dX8_keepBest_6 ?_
  refine r_iconst C ic_0 dX8_keepBest_9 ?_
  refine r_bipush C bp_10 dX8_keepBest_10 ?_
  obtain ⟨hi, h⟩ := ckc_e h
  refine r_copy C i_3 i_85 hi ml_X8_72 gm_arraycopy (by decide) (by exact Nat.le_of_ble_eq_true rfl) dX8_keepBest_12 h (fun σ7 h => ?_)
  refine r_aload_n C dX8_keepBest_15 rfl ?_
  refine r_iload_n C dX8_keepBest_16 rfl ?_
  refine r_putI C ck_8 f_84_5 (by decide) fl_X8_37 rfl rfl rfl rfl rfl dX8_keepBest_17 h (fun σ8 h => ?_)
  refine r_aload_n C dX8_keepBest_20 rfl ?_
  refine r_aload_n C dX8_keepBest_21 rfl ?_
  refine r_getI C ck_8 f_84_7 (by decide) fl_X8_44 rfl dX8_keepBest_22 ?_
  refine r_putI C ck_8 f_84_6 (by decide) fl_X8_41 rfl rfl rfl rfl rfl dX8_keepBest_25 h (fun σ9 h => ?_)
  exact r_vret C rfl (Nat.le_of_ble_eq_true rfl) dX8_keepBest_28 (re_v h)
set_option maxHeartbeats 4000000 in
set_option maxRecDepth 100000 in
theorem mX8_begin {l : Launch} {D : va_G} {ad : Nat → Nat} {cy : Nat → ClassId} (hl : l.stackTraces = false) (hI : Inj ad)   {σ τ : Mem} (h : fX8_begin σ = some τ) : Co l D ad cy yX8_begin cX8_begin 2 (Option.none : Option Jvm.ClassFile.FieldType) 5 192 0 [.ref (ad 84), .ref (ad 1)] σ (zv) τ := by
  refine co_of (av := [.inr 84, .inr 1]) hl hI (by decide +kernel) (Nat.le_of_ble_eq_true rfl) [some (.inr 84), some (.inr 1)] rfl (fun V C => ?_)
  have C : Rl l D ad cy RX8 cX8_begin 2 (Option.none : Option Jvm.ClassFile.FieldType) 5 192 0 (zv) τ V := C
  refine r_aload_n C dX8_begin_0 rfl ?_
  refine r_iconst C ic_0 dX8_begin_1 ?_
  refine r_putI C ck_8 f_84_7 (by decide) fl_X8_44 rfl rfl rfl rfl rfl dX8_begin_2 h (fun σ15 h => ?_)
  refine r_aload_n C dX8_begin_5 rfl ?_
  refine r_iconst C ic_0 dX8_begin_6 ?_
  refine r_putI C ck_8 f_84_8 (by decide) fl_X8_47 rfl rfl rfl rfl rfl dX8_begin_7 h (fun σ16 h => ?_)
  refine r_aload_n C dX8_begin_10 rfl ?_
  refine r_iconst C ic_0 dX8_begin_11 ?_
  refine r_putI C ck_8 f_84_9 (by decide) fl_X8_50 rfl rfl rfl rfl rfl dX8_begin_12 h (fun σ17 h => ?_)
  refine r_aload_n C dX8_begin_15 rfl ?_
  refine r_getR C ck_8 f_84_4 (by decide) fl_X8_33 rfl dX8_begin_16 ?_
  refine bv_e h (fun σ18 hf18 h => ?_)
  refine r_callVv C g_X6_forget hc_6 o_104 ml_X8_53 (mX6_forget hl hI  hf18) rfl rfl (by exact Nat.le_of_ble_eq_true rfl) ⟨Nat.le_of_ble_eq_true rfl, Nat.le_of_ble_eq_true rfl, Nat.le_of_ble_eq_true rfl⟩ dX8_begin_19 ?_
  refine r_aload_n C dX8_begin_22 rfl ?_
  refine bv_e h (fun σ19 hf19 h => ?_)
  refine r_callVv C g_X8_freeAll hc_8 o_84 ml_X8_56 (mX8_freeAll hl hI  hf19) rfl rfl (by exact Nat.le_of_ble_eq_true rfl) ⟨Nat.le_of_ble_eq_true rfl, Nat.le_of_ble_eq_true rfl, Nat.le_of_ble_eq_true rfl⟩ dX8_begin_23 ?_
  refine r_aload_n C dX8_begin_26 rfl ?_
  refine r_aload_n C dX8_begin_27 rfl ?_
  refine r_aload_n C dX8_begin_28 rfl ?_
  refine bd_e h (fun v20 σ20 hf20 h => ?_)
  refine r_callVi C g_X4_presentCost hc_4 o_1 ml_X8_59 (mX4_presentCost hl hI  hf20) rfl rfl (by exact Nat.le_of_ble_eq_true rfl) ⟨Nat.le_of_ble_eq_true rfl, Nat.le_of_ble_eq_true rfl, Nat.le_of_ble_eq_true rfl⟩ dX8_begin_29 ?_
  refine bv_e h (fun σ21 hf21 h => ?_)
  refine r_callVv C g_X8_keepBest hc_8 o_84 ml_X8_65 (mX8_keepBest hl hI  hf21) rfl rfl (by exact Nat.le_of_ble_eq_true rfl) ⟨Nat.le_of_ble_eq_true rfl, Nat.le_of_ble_eq_true rfl, Nat.le_of_ble_eq_true rfl⟩ dX8_begin_32 ?_
  exact r_vret C rfl (Nat.le_of_ble_eq_true rfl) dX8_begin_35 (re_v h)
set_option maxHeartbeats 4000000 in
set_option maxRecDepth 100000 in
theorem mX8_reliefOf {l : Launch} {D : va_G} {ad : Nat → Nat} {cy : Nat → ClassId} (hl : l.stackTraces = false) (hI : Inj ad)   {σ τ : Mem} {a2 : Int32} {r : Int32} (h : fX8_reliefOf σ a2 = some (r, τ)) : Co l D ad cy yX8_reliefOf cX8_reliefOf 5 (Option.some Jvm.ClassFile.FieldType.int) 5 192 0 [.ref (ad 84), .ref (ad 1), .int a2] σ (zi r) τ := by
  refine co_of (av := [.inr 84, .inr 1, .inl a2]) hl hI (by decide +kernel) (Nat.le_of_ble_eq_true rfl) [some (.inr 84), some (.inr 1), some (.inl a2), none, none] rfl (fun V C => ?_)
  have C : Rl l D ad cy RX8 cX8_reliefOf 5 (Option.some Jvm.ClassFile.FieldType.int) 5 192 0 (zi r) τ V := C
  have L21 : ∀ (n : Nat) (σ : Mem) (l2 l3 l4 : Int32), fX8_reliefOf_L21  n σ l2 l3 l4 = some (r, τ) → V 0 σ 21 [some (.inr 84), some (.inr 1), some (.inl l2), some (.inl l3), some (.inl l4)] [] := by
    intro n21
    induction n21 with
    | zero => intro σ l2 l3 l4 h; exact no_e h
    | succ n21 ih21 =>
      have L64 : ∀ (σ : Mem) (l2 l3 l4 : Int32), fX8_reliefOf_L64 (fX8_reliefOf_L21  n21)  σ l2 l3 l4 = some (r, τ) → V 0 σ 64 [some (.inr 84), some (.inr 1), some (.inl l2), some (.inl l3), some (.inl l4)] [] := by
        intro  σ l2 l3 l4 h
        refine r_iinc C ic_1 (by decide) dX8_reliefOf_64 rfl ?_
        refine r_goto C (tgt := 21) (by decide) dX8_reliefOf_67 ?_
        exact ih21 _ _ _ _ h
      intro σ l2 l3 l4 h
      have h : fX8_reliefOf_B21  (fX8_reliefOf_L21  n21) σ l2 l3 l4 = some (r, τ) := h
      refine r_iload C dX8_reliefOf_21 rfl ?_
      refine r_aload_n C dX8_reliefOf_23 rfl ?_
      refine r_getR C ck_4 f_1_0 (by decide) fl_X8_154 rfl dX8_reliefOf_24 ?_
      refine r_iload_n C dX8_reliefOf_27 rfl ?_
      obtain ⟨hi, h⟩ := ck_e h
      refine r_iald C i_2 hi dX8_reliefOf_28 ?_
      refine r_ic_ge C (tgt := 70) h (by decide) dX8_reliefOf_29 (fun hc h => ?_) (fun hc h => ?_)
      · refine r_aload_n C dX8_reliefOf_70 rfl ?_
        refine bd_e h (fun v11 σ11 hf11 h => ?_)
        refine r_callVi C g_X4_presentCost hc_4 o_1 ml_X8_59 (mX4_presentCost hl hI  hf11) rfl rfl (by exact Nat.le_of_ble_eq_true rfl) ⟨Nat.le_of_ble_eq_true rfl, Nat.le_of_ble_eq_true rfl, Nat.le_of_ble_eq_true rfl⟩ dX8_reliefOf_71 ?_
        refine r_iload_n C dX8_reliefOf_74 rfl ?_
        refine r_isub C dX8_reliefOf_75 ?_
        exact r_iret C rfl (Nat.le_of_ble_eq_true rfl) dX8_reliefOf_76 (re_i h)
      · refine r_iload C dX8_reliefOf_32 rfl ?_
        refine r_aload_n C dX8_reliefOf_34 rfl ?_
        refine r_getR C ck_4 f_1_1 (by decide) fl_X8_69 rfl dX8_reliefOf_35 ?_
        refine r_iload_n C dX8_reliefOf_38 rfl ?_
        obtain ⟨hi, h⟩ := ck_e h
        refine r_iald C i_3 hi dX8_reliefOf_39 ?_
        refine r_ic_eq C (tgt := 64) h (by decide) dX8_reliefOf_40 (fun hc h => ?_) (fun hc h => ?_)
        · exact L64 _ _ _ _ h
        · refine r_aload_n C dX8_reliefOf_43 rfl ?_
          refine r_getR C ck_8 f_84_1 (by decide) fl_X8_15 rfl dX8_reliefOf_44 ?_
          refine r_iload_n C dX8_reliefOf_47 rfl ?_
          refine r_iload C dX8_reliefOf_48 rfl ?_
          obtain ⟨hi, h⟩ := ck_e h
          refine r_iast C i_86 hi dX8_reliefOf_50 h (fun σ12 h => ?_)
          refine r_iload_n C dX8_reliefOf_51 rfl ?_
          refine r_aload_n C dX8_reliefOf_52 rfl ?_
          refine r_aload_n C dX8_reliefOf_53 rfl ?_
          refine r_getR C ck_8 f_84_1 (by decide) fl_X8_15 rfl dX8_reliefOf_54 ?_
          refine bd_e h (fun v13 σ13 hf13 h => ?_)
          refine r_callVi C g_X4_costIn hc_4 o_1 ml_X8_88 (mX4_costIn hl hI i_86 hf13) rfl rfl (by exact Nat.le_of_ble_eq_true rfl) ⟨Nat.le_of_ble_eq_true rfl, Nat.le_of_ble_eq_true rfl, Nat.le_of_ble_eq_true rfl⟩ dX8_reliefOf_57 ?_
          refine r_mmin C ml_X8_158 gm_min (by decide) (by exact Nat.le_of_ble_eq_true rfl) (by decide) dX8_reliefOf_60 ?_
          refine r_istoreL_n C h (by decide) dX8_reliefOf_63 (fun x14 h => ?_)
          exact L64 _ _ _ _ h
  refine r_aload_n C dX8_reliefOf_0 rfl ?_
  refine r_getR C ck_4 f_1_1 (by decide) fl_X8_69 rfl dX8_reliefOf_1 ?_
  refine r_iconst C ic_0 dX8_reliefOf_4 ?_
  refine r_aload_n C dX8_reliefOf_5 rfl ?_
  refine r_getR C ck_8 f_84_1 (by decide) fl_X8_15 rfl dX8_reliefOf_6 ?_
  refine r_iconst C ic_0 dX8_reliefOf_9 ?_
  refine r_bipush C bp_10 dX8_reliefOf_10 ?_
  obtain ⟨hi, h⟩ := ckc_e h
  refine r_copy C i_3 i_86 hi ml_X8_72 gm_arraycopy (by decide) (by exact Nat.le_of_ble_eq_true rfl) dX8_reliefOf_12 h (fun σ15 h => ?_)
  refine r_ldc C kc_X8_157 dX8_reliefOf_15 ?_
  refine r_istore_n C (by decide) dX8_reliefOf_17 ?_
  refine r_iconst C ic_0 dX8_reliefOf_18 ?_
  refine r_istore C (by decide) dX8_reliefOf_19 ?_
  exact L21 FU _ _ _ _ h
set_option maxHeartbeats 4000000 in
set_option maxRecDepth 100000 in
theorem mX8_costAfter {l : Launch} {D : va_G} {ad : Nat → Nat} {cy : Nat → ClassId} (hl : l.stackTraces = false) (hI : Inj ad)   {σ τ : Mem} {a2 : Int32} {r : Int32} (h : fX8_costAfter σ a2 = some (r, τ)) : Co l D ad cy yX8_costAfter cX8_costAfter 3 (Option.some Jvm.ClassFile.FieldType.int) 4 172 0 [.ref (ad 84), .ref (ad 1), .int a2] σ (zi r) τ := by
  refine co_of (av := [.inr 84, .inr 1, .inl a2]) hl hI (by decide +kernel) (Nat.le_of_ble_eq_true rfl) [some (.inr 84), some (.inr 1), some (.inl a2)] rfl (fun V C => ?_)
  have C : Rl l D ad cy RX8 cX8_costAfter 3 (Option.some Jvm.ClassFile.FieldType.int) 4 172 0 (zi r) τ V := C
  refine r_aload_n C dX8_costAfter_0 rfl ?_
  refine r_getR C ck_8 f_84_3 (by decide) fl_X8_26 rfl dX8_costAfter_1 ?_
  refine r_aload_n C dX8_costAfter_4 rfl ?_
  refine r_iload_n C dX8_costAfter_5 rfl ?_
  refine r_aload_n C dX8_costAfter_6 rfl ?_
  refine r_getR C ck_8 f_84_1 (by decide) fl_X8_15 rfl dX8_costAfter_7 ?_
  refine bv_e h (fun σ5 hf5 h => ?_)
  refine r_callVv C g_X3_tryOut hc_3 o_98 ml_X8_84 (mX3_tryOut hl hI i_86 hf5) rfl rfl (by exact Nat.le_of_ble_eq_true rfl) ⟨Nat.le_of_ble_eq_true rfl, Nat.le_of_ble_eq_true rfl, Nat.le_of_ble_eq_true rfl⟩ dX8_costAfter_10 ?_
  refine r_aload_n C dX8_costAfter_13 rfl ?_
  refine r_aload_n C dX8_costAfter_14 rfl ?_
  refine r_getR C ck_8 f_84_1 (by decide) fl_X8_15 rfl dX8_costAfter_15 ?_
  refine bd_e h (fun v6 σ6 hf6 h => ?_)
  refine r_callVi C g_X4_costIn hc_4 o_1 ml_X8_88 (mX4_costIn hl hI i_86 hf6) rfl rfl (by exact Nat.le_of_ble_eq_true rfl) ⟨Nat.le_of_ble_eq_true rfl, Nat.le_of_ble_eq_true rfl, Nat.le_of_ble_eq_true rfl⟩ dX8_costAfter_18 ?_
  exact r_iret C rfl (Nat.le_of_ble_eq_true rfl) dX8_costAfter_21 (re_i h)
set_option maxHeartbeats 4000000 in
set_option maxRecDepth 100000 in
theorem mX8_isBanned {l : Launch} {D : va_G} {ad : Nat → Nat} {cy : Nat → ClassId} (hl : l.stackTraces = false) (hI : Inj ad)   {σ τ : Mem} {a1 a2 : Int32} {r : Int32} (h : fX8_isBanned σ a1 a2 = some (r, τ)) : Co l D ad cy yX8_isBanned cX8_isBanned 3 (Option.some Jvm.ClassFile.FieldType.boolean) 1 100 0 [.ref (ad 84), .int a1, .int a2] σ (zi r) τ := by
  refine co_of (av := [.inr 84, .inl a1, .inl a2]) hl hI (by decide +kernel) (Nat.le_of_ble_eq_true rfl) [some (.inr 84), some (.inl a1), some (.inl a2)] rfl (fun V C => ?_)
  have C : Rl l D ad cy RX8 cX8_isBanned 3 (Option.some Jvm.ClassFile.FieldType.boolean) 1 100 0 (zi r) τ V := C
  refine r_aload_n C dX8_isBanned_0 rfl ?_
  refine r_getI C ck_8 f_84_7 (by decide) fl_X8_44 rfl dX8_isBanned_1 ?_
  refine r_aload_n C dX8_isBanned_4 rfl ?_
  refine r_getR C ck_8 f_84_2 (by decide) fl_X8_20 rfl dX8_isBanned_5 ?_
  refine r_iload_n C dX8_isBanned_8 rfl ?_
  obtain ⟨ha3, h⟩ := ck_e h
  refine r_rrald C _ a_87 ha3 rfl dX8_isBanned_9 ?_
  refine r_iload_n C dX8_isBanned_10 rfl ?_
  obtain ⟨hi, h⟩ := ck_e h
  refine r_iald C (row_87 ha3) hi dX8_isBanned_11 ?_
  refine r_ic_ge C (tgt := 19) h (by decide) dX8_isBanned_12 (fun hc h => ?_) (fun hc h => ?_)
  · refine r_iconst C ic_0 dX8_isBanned_19 ?_
    exact r_zret C rfl (Nat.le_of_ble_eq_true rfl) (Or.inl rfl) dX8_isBanned_20 (re_i h)
  · refine r_iconst C ic_1 dX8_isBanned_15 ?_
    refine r_goto C (tgt := 20) (by decide) dX8_isBanned_16 ?_
    exact r_zret C rfl (Nat.le_of_ble_eq_true rfl) (Or.inr rfl) dX8_isBanned_20 (re_i h)
set_option maxHeartbeats 4000000 in
set_option maxRecDepth 100000 in
theorem mX8_isTrialHeld {l : Launch} {D : va_G} {ad : Nat → Nat} {cy : Nat → ClassId} (hl : l.stackTraces = false) (hI : Inj ad)   {σ τ : Mem} {a2 : Int32} {r : Int32} (h : fX8_isTrialHeld σ a2 = some (r, τ)) : Co l D ad cy yX8_isTrialHeld cX8_isTrialHeld 4 (Option.some Jvm.ClassFile.FieldType.boolean) 2 122 0 [.ref (ad 84), .ref (ad 1), .int a2] σ (zi r) τ := by
  refine co_of (av := [.inr 84, .inr 1, .inl a2]) hl hI (by decide +kernel) (Nat.le_of_ble_eq_true rfl) [some (.inr 84), some (.inr 1), some (.inl a2), none] rfl (fun V C => ?_)
  have C : Rl l D ad cy RX8 cX8_isTrialHeld 4 (Option.some Jvm.ClassFile.FieldType.boolean) 2 122 0 (zi r) τ V := C
  have L12 : ∀ (n : Nat) (σ : Mem) (l3 : Int32), fX8_isTrialHeld_L12  n σ l3 = some (r, τ) → V 0 σ 12 [some (.inr 84), some (.inr 1), none, some (.inl l3)] [] := by
    intro n12
    induction n12 with
    | zero => intro σ l3 h; exact no_e h
    | succ n12 ih12 =>
      have L51 : ∀ (σ : Mem) (l3 : Int32), fX8_isTrialHeld_L51 (fX8_isTrialHeld_L12  n12)  σ l3 = some (r, τ) → V 0 σ 51 [some (.inr 84), some (.inr 1), none, some (.inl l3)] [] := by
        intro  σ l3 h
        refine r_iinc C ic_1 (by decide) dX8_isTrialHeld_51 rfl ?_
        refine r_goto C (tgt := 12) (by decide) dX8_isTrialHeld_54 ?_
        exact ih12 _ _ h
      intro σ l3 h
      have h : fX8_isTrialHeld_B12  (fX8_isTrialHeld_L12  n12) σ l3 = some (r, τ) := h
      refine r_iload_n C dX8_isTrialHeld_12 rfl ?_
      refine r_aload_n C dX8_isTrialHeld_13 rfl ?_
      refine r_getI C ck_4 f_1_7 (by decide) fl_X8_92 rfl dX8_isTrialHeld_14 ?_
      refine r_ic_ge C (tgt := 57) h (by decide) dX8_isTrialHeld_17 (fun hc h => ?_) (fun hc h => ?_)
      · refine r_iconst C ic_0 dX8_isTrialHeld_57 ?_
        exact r_zret C rfl (Nat.le_of_ble_eq_true rfl) (Or.inl rfl) dX8_isTrialHeld_58 (re_i h)
      · refine r_aload_n C dX8_isTrialHeld_20 rfl ?_
        refine r_getR C ck_8 f_84_1 (by decide) fl_X8_15 rfl dX8_isTrialHeld_21 ?_
        refine r_iload_n C dX8_isTrialHeld_24 rfl ?_
        obtain ⟨hi, h⟩ := ck_e h
        refine r_iald C i_86 hi dX8_isTrialHeld_25 ?_
        refine r_aload_n C dX8_isTrialHeld_26 rfl ?_
        refine r_getR C ck_4 f_1_1 (by decide) fl_X8_69 rfl dX8_isTrialHeld_27 ?_
        refine r_iload_n C dX8_isTrialHeld_30 rfl ?_
        obtain ⟨hi, h⟩ := ck_e h
        refine r_iald C i_3 hi dX8_isTrialHeld_31 ?_
        refine r_ic_eq C (tgt := 51) h (by decide) dX8_isTrialHeld_32 (fun hc h => ?_) (fun hc h => ?_)
        · exact L51 _ _ h
        · refine r_aload_n C dX8_isTrialHeld_35 rfl ?_
          refine r_iload_n C dX8_isTrialHeld_36 rfl ?_
          refine r_aload_n C dX8_isTrialHeld_37 rfl ?_
          refine r_getR C ck_8 f_84_1 (by decide) fl_X8_15 rfl dX8_isTrialHeld_38 ?_
          refine r_iload_n C dX8_isTrialHeld_41 rfl ?_
          obtain ⟨hi, h⟩ := ck_e h
          refine r_iald C i_86 hi dX8_isTrialHeld_42 ?_
          refine bd_e h (fun v3 σ3 hf3 h => ?_)
          refine r_callVi C g_X8_isBanned hc_8 o_84 ml_X8_95 (mX8_isBanned hl hI  hf3) rfl rfl (by exact Nat.le_of_ble_eq_true rfl) ⟨Nat.le_of_ble_eq_true rfl, Nat.le_of_ble_eq_true rfl, Nat.le_of_ble_eq_true rfl⟩ dX8_isTrialHeld_43 ?_
          refine r_if_eq C (tgt := 51) h (by decide) dX8_isTrialHeld_46 (fun hc h => ?_) (fun hc h => ?_)
          · exact L51 _ _ h
          · refine r_iconst C ic_1 dX8_isTrialHeld_49 ?_
            exact r_zret C rfl (Nat.le_of_ble_eq_true rfl) (Or.inr rfl) dX8_isTrialHeld_50 (re_i h)
  refine r_iload_n C dX8_isTrialHeld_0 rfl ?_
  refine r_aload_n C dX8_isTrialHeld_1 rfl ?_
  refine r_getI C ck_8 f_84_5 (by decide) fl_X8_37 rfl dX8_isTrialHeld_2 ?_
  refine r_ic_ge C (tgt := 10) h (by decide) dX8_isTrialHeld_5 (fun hc h => ?_) (fun hc h => ?_)
  · refine r_iconst C ic_0 dX8_isTrialHeld_10 ?_
    refine r_istore_n C (by decide) dX8_isTrialHeld_11 ?_
    refine r_weak C [some (.inr 84), some (.inr 1), none, some (.inl (0 : Int32))] ⟨rfl, ⟨rfl, ⟨rfl, trivial⟩⟩⟩ ?_
    exact L12 FU _ _ h
  · refine r_iconst C ic_0 dX8_isTrialHeld_8 ?_
    exact r_zret C rfl (Nat.le_of_ble_eq_true rfl) (Or.inl rfl) dX8_isTrialHeld_9 (re_i h)
set_option maxHeartbeats 4000000 in
set_option maxRecDepth 100000 in
theorem mX8_heldMoves {l : Launch} {D : va_G} {ad : Nat → Nat} {cy : Nat → ClassId} (hl : l.stackTraces = false) (hI : Inj ad)   {σ τ : Mem} {r : Int32} (h : fX8_heldMoves σ = some (r, τ)) : Co l D ad cy yX8_heldMoves cX8_heldMoves 4 (Option.some Jvm.ClassFile.FieldType.int) 5 194 0 [.ref (ad 84), .ref (ad 1)] σ (zi r) τ := by
  refine co_of (av := [.inr 84, .inr 1]) hl hI (by decide +kernel) (Nat.le_of_ble_eq_true rfl) [some (.inr 84), some (.inr 1), none, none] rfl (fun V C => ?_)
  have C : Rl l D ad cy RX8 cX8_heldMoves 4 (Option.some Jvm.ClassFile.FieldType.int) 5 194 0 (zi r) τ V := C
  have L4 : ∀ (n : Nat) (σ : Mem) (l2 l3 : Int32), fX8_heldMoves_L4  n σ l2 l3 = some (r, τ) → V 0 σ 4 [some (.inr 84), some (.inr 1), some (.inl l2), some (.inl l3)] [] := by
    intro n4
    induction n4 with
    | zero => intro σ l2 l3 h; exact no_e h
    | succ n4 ih4 =>
      have L32 : ∀ (σ : Mem) (l2 l3 : Int32), fX8_heldMoves_L32 (fX8_heldMoves_L4  n4)  σ l2 l3 = some (r, τ) → V 0 σ 32 [some (.inr 84), some (.inr 1), some (.inl l2), some (.inl l3)] [] := by
        intro  σ l2 l3 h
        refine r_iinc C ic_1 (by decide) dX8_heldMoves_32 rfl ?_
        refine r_goto C (tgt := 4) (by decide) dX8_heldMoves_35 ?_
        exact ih4 _ _ _ h
      intro σ l2 l3 h
      have h : fX8_heldMoves_B4  (fX8_heldMoves_L4  n4) σ l2 l3 = some (r, τ) := h
      refine r_iload_n C dX8_heldMoves_4 rfl ?_
      refine r_aload_n C dX8_heldMoves_5 rfl ?_
      refine r_getR C ck_8 f_84_3 (by decide) fl_X8_26 rfl dX8_heldMoves_6 ?_
      refine r_getI C ck_3 f_98_1 (by decide) fl_X8_99 rfl dX8_heldMoves_9 ?_
      refine r_ic_ge C (tgt := 38) h (by decide) dX8_heldMoves_12 (fun hc h => ?_) (fun hc h => ?_)
      · refine r_iload_n C dX8_heldMoves_38 rfl ?_
        exact r_iret C rfl (Nat.le_of_ble_eq_true rfl) dX8_heldMoves_39 (re_i h)
      · refine r_aload_n C dX8_heldMoves_15 rfl ?_
        refine r_aload_n C dX8_heldMoves_16 rfl ?_
        refine r_aload_n C dX8_heldMoves_17 rfl ?_
        refine r_aload_n C dX8_heldMoves_18 rfl ?_
        refine r_iload_n C dX8_heldMoves_19 rfl ?_
        refine bd_e h (fun v5 σ5 hf5 h => ?_)
        refine r_callVi C g_X8_costAfter hc_8 o_84 ml_X8_102 (mX8_costAfter hl hI  hf5) rfl rfl (by exact Nat.le_of_ble_eq_true rfl) ⟨Nat.le_of_ble_eq_true rfl, Nat.le_of_ble_eq_true rfl, Nat.le_of_ble_eq_true rfl⟩ dX8_heldMoves_20 ?_
        refine bd_e h (fun v6 σ6 hf6 h => ?_)
        refine r_callVi C g_X8_isTrialHeld hc_8 o_84 ml_X8_106 (mX8_isTrialHeld hl hI  hf6) rfl rfl (by exact Nat.le_of_ble_eq_true rfl) ⟨Nat.le_of_ble_eq_true rfl, Nat.le_of_ble_eq_true rfl, Nat.le_of_ble_eq_true rfl⟩ dX8_heldMoves_23 ?_
        refine r_if_eq C (tgt := 32) h (by decide) dX8_heldMoves_26 (fun hc h => ?_) (fun hc h => ?_)
        · exact L32 _ _ _ h
        · refine r_iinc C ic_1 (by decide) dX8_heldMoves_29 rfl ?_
          exact L32 _ _ _ h
  refine r_iconst C ic_0 dX8_heldMoves_0 ?_
  refine r_istore_n C (by decide) dX8_heldMoves_1 ?_
  refine r_iconst C ic_0 dX8_heldMoves_2 ?_
  refine r_istore_n C (by decide) dX8_heldMoves_3 ?_
  exact L4 FU _ _ _ h
set_option maxHeartbeats 4000000 in
set_option maxRecDepth 100000 in
theorem mX8_cheapest {l : Launch} {D : va_G} {ad : Nat → Nat} {cy : Nat → ClassId} (hl : l.stackTraces = false) (hI : Inj ad)   {σ τ : Mem} {a2 a3 : Int32} {r : Int32} (h : fX8_cheapest σ a2 a3 = some (r, τ)) : Co l D ad cy yX8_cheapest cX8_cheapest 9 (Option.some Jvm.ClassFile.FieldType.int) 5 194 0 [.ref (ad 84), .ref (ad 1), .int a2, .int a3] σ (zi r) τ := by
  refine co_of (av := [.inr 84, .inr 1, .inl a2, .inl a3]) hl hI (by decide +kernel) (Nat.le_of_ble_eq_true rfl) [some (.inr 84), some (.inr 1), some (.inl a2), some (.inl a3), none, none, none, none, none] rfl (fun V C => ?_)
  have C : Rl l D ad cy RX8 cX8_cheapest 9 (Option.some Jvm.ClassFile.FieldType.int) 5 194 0 (zi r) τ V := C
  have L18 : ∀ (n : Nat) (σ : Mem) (l3 l4 l5 l6 : Int32), fX8_cheapest_L18  n σ l3 l4 l5 l6 = some (r, τ) → V 0 σ 18 [some (.inr 84), some (.inr 1), none, some (.inl l3), some (.inl l4), some (.inl l5), some (.inl l6), none, none] [] := by
    intro n18
    induction n18 with
    | zero => intro σ l3 l4 l5 l6 h; exact no_e h
    | succ n18 ih18 =>
      have L86 : ∀ (σ : Mem) (l3 l4 l5 l6 : Int32), fX8_cheapest_L86 (fX8_cheapest_L18  n18)  σ l3 l4 l5 l6 = some (r, τ) → V 0 σ 86 [some (.inr 84), some (.inr 1), none, some (.inl l3), some (.inl l4), some (.inl l5), some (.inl l6), none, none] [] := by
        intro  σ l3 l4 l5 l6 h
        refine r_iinc C ic_1 (by decide) dX8_cheapest_86 rfl ?_
        refine r_goto C (tgt := 18) (by decide) dX8_cheapest_89 ?_
        exact ih18 _ _ _ _ _ h
      have L78 : ∀ (σ : Mem) (l3 l6 l7 : Int32), fX8_cheapest_L78 (fX8_cheapest_L18  n18)  σ l3 l6 l7 = some (r, τ) → V 0 σ 78 [some (.inr 84), some (.inr 1), none, some (.inl l3), none, none, some (.inl l6), some (.inl l7), none] [] := by
        intro  σ l3 l6 l7 h
        refine r_iload C dX8_cheapest_78 rfl ?_
        refine r_istore C (by decide) dX8_cheapest_80 ?_
        refine r_iload C dX8_cheapest_82 rfl ?_
        refine r_istore C (by decide) dX8_cheapest_84 ?_
        refine r_weak C [some (.inr 84), some (.inr 1), none, some (.inl l3), some (.inl l6), some (.inl l7), some (.inl l6), none, none] ⟨rfl, ⟨rfl, ⟨rfl, ⟨rfl, ⟨rfl, ⟨rfl, trivial⟩⟩⟩⟩⟩⟩ ?_
        exact L86 _ _ _ _ _ h
      have L57 : ∀ (σ : Mem) (l3 l4 l5 l6 l7 s0 : Int32), fX8_cheapest_L57 (fX8_cheapest_L18  n18)  σ l3 l4 l5 l6 l7 s0 = some (r, τ) → V 0 σ 57 [some (.inr 84), some (.inr 1), none, some (.inl l3), some (.inl l4), some (.inl l5), some (.inl l6), some (.inl l7), none] [.int s0] := by
        intro  σ l3 l4 l5 l6 l7 s0 h
        refine r_istore C (by decide) dX8_cheapest_57 ?_
        refine r_iload C dX8_cheapest_59 rfl ?_
        refine r_if_eq C (tgt := 86) h (by decide) dX8_cheapest_61 (fun hc h => ?_) (fun hc h => ?_)
        · refine r_weak C [some (.inr 84), some (.inr 1), none, some (.inl l3), some (.inl l4), some (.inl l5), some (.inl l6), none, none] ⟨rfl, ⟨rfl, ⟨rfl, ⟨rfl, ⟨rfl, ⟨rfl, trivial⟩⟩⟩⟩⟩⟩ ?_
          exact L86 _ _ _ _ _ h
        · refine r_iload_n C dX8_cheapest_64 rfl ?_
          refine r_if_ne C (tgt := 78) h (by decide) dX8_cheapest_65 (fun hc h => ?_) (fun hc h => ?_)
          · refine r_weak C [some (.inr 84), some (.inr 1), none, some (.inl l3), none, none, some (.inl l6), some (.inl l7), none] ⟨rfl, ⟨rfl, ⟨rfl, ⟨rfl, ⟨rfl, trivial⟩⟩⟩⟩⟩ ?_
            exact L78 _ _ _ _ h
          · refine r_aload_n C dX8_cheapest_68 rfl ?_
            refine r_aload_n C dX8_cheapest_69 rfl ?_
            refine r_iload C dX8_cheapest_70 rfl ?_
            refine bd_e h (fun v7 σ7 hf7 h => ?_)
            refine r_callVi C g_X8_isTrialHeld hc_8 o_84 ml_X8_106 (mX8_isTrialHeld hl hI  hf7) rfl rfl (by exact Nat.le_of_ble_eq_true rfl) ⟨Nat.le_of_ble_eq_true rfl, Nat.le_of_ble_eq_true rfl, Nat.le_of_ble_eq_true rfl⟩ dX8_cheapest_72 ?_
            refine r_if_ne C (tgt := 86) h (by decide) dX8_cheapest_75 (fun hc h => ?_) (fun hc h => ?_)
            · refine r_weak C [some (.inr 84), some (.inr 1), none, some (.inl l3), some (.inl l4), some (.inl l5), some (.inl l6), none, none] ⟨rfl, ⟨rfl, ⟨rfl, ⟨rfl, ⟨rfl, ⟨rfl, trivial⟩⟩⟩⟩⟩⟩ ?_
              exact L86 _ _ _ _ _ h
            · refine r_weak C [some (.inr 84), some (.inr 1), none, some (.inl l3), none, none, some (.inl l6), some (.inl l7), none] ⟨rfl, ⟨rfl, ⟨rfl, ⟨rfl, ⟨rfl, trivial⟩⟩⟩⟩⟩ ?_
              exact L78 _ _ _ _ h
      have L52 : ∀ (σ : Mem) (l3 l4 l5 l6 l7 : Int32), fX8_cheapest_L52 (fX8_cheapest_L18  n18)  σ l3 l4 l5 l6 l7 = some (r, τ) → V 0 σ 52 [some (.inr 84), some (.inr 1), none, some (.inl l3), some (.inl l4), some (.inl l5), some (.inl l6), some (.inl l7), none] [] := by
        intro  σ l3 l4 l5 l6 l7 h
        refine r_iconst C ic_1 dX8_cheapest_52 ?_
        refine r_goto C (tgt := 57) (by decide) dX8_cheapest_53 ?_
        exact L57 _ _ _ _ _ _ _ h
      intro σ l3 l4 l5 l6 h
      have h : fX8_cheapest_B18  (fX8_cheapest_L18  n18) σ l3 l4 l5 l6 = some (r, τ) := h
      refine r_iload C dX8_cheapest_18 rfl ?_
      refine r_aload_n C dX8_cheapest_20 rfl ?_
      refine r_getR C ck_8 f_84_3 (by decide) fl_X8_26 rfl dX8_cheapest_21 ?_
      refine r_getI C ck_3 f_98_1 (by decide) fl_X8_99 rfl dX8_cheapest_24 ?_
      refine r_ic_ge C (tgt := 92) h (by decide) dX8_cheapest_27 (fun hc h => ?_) (fun hc h => ?_)
      · refine r_iload C dX8_cheapest_92 rfl ?_
        exact r_iret C rfl (Nat.le_of_ble_eq_true rfl) dX8_cheapest_94 (re_i h)
      · refine r_aload_n C dX8_cheapest_30 rfl ?_
        refine r_aload_n C dX8_cheapest_31 rfl ?_
        refine r_iload C dX8_cheapest_32 rfl ?_
        refine bd_e h (fun v8 σ8 hf8 h => ?_)
        refine r_callVi C g_X8_costAfter hc_8 o_84 ml_X8_102 (mX8_costAfter hl hI  hf8) rfl rfl (by exact Nat.le_of_ble_eq_true rfl) ⟨Nat.le_of_ble_eq_true rfl, Nat.le_of_ble_eq_true rfl, Nat.le_of_ble_eq_true rfl⟩ dX8_cheapest_34 ?_
        refine r_istore C (by decide) dX8_cheapest_37 ?_
        refine r_iload C dX8_cheapest_39 rfl ?_
        refine r_iconst C ic_m1 dX8_cheapest_41 ?_
        refine r_ic_eq C (tgt := 52) h (by decide) dX8_cheapest_42 (fun hc h => ?_) (fun hc h => ?_)
        · exact L52 _ _ _ _ _ _ h
        · refine r_iload C dX8_cheapest_45 rfl ?_
          refine r_iload C dX8_cheapest_47 rfl ?_
          refine r_ic_ge C (tgt := 56) h (by decide) dX8_cheapest_49 (fun hc h => ?_) (fun hc h => ?_)
          · refine r_iconst C ic_0 dX8_cheapest_56 ?_
            exact L57 _ _ _ _ _ _ _ h
          · exact L52 _ _ _ _ _ _ h
  refine r_aload_n C dX8_cheapest_0 rfl ?_
  refine r_getR C ck_8 f_84_3 (by decide) fl_X8_26 rfl dX8_cheapest_1 ?_
  refine r_aload_n C dX8_cheapest_4 rfl ?_
  refine r_iload_n C dX8_cheapest_5 rfl ?_
  refine bv_e h (fun σ9 hf9 h => ?_)
  refine r_callVv C g_X3_fill hc_3 o_98 ml_X8_110 (mX3_fill hl hI  hf9) rfl rfl (by exact Nat.le_of_ble_eq_true rfl) ⟨Nat.le_of_ble_eq_true rfl, Nat.le_of_ble_eq_true rfl, Nat.le_of_ble_eq_true rfl⟩ dX8_cheapest_6 ?_
  refine r_iconst C ic_m1 dX8_cheapest_9 ?_
  refine r_istore C (by decide) dX8_cheapest_10 ?_
  refine r_iconst C ic_0 dX8_cheapest_12 ?_
  refine r_istore C (by decide) dX8_cheapest_13 ?_
  refine r_iconst C ic_0 dX8_cheapest_15 ?_
  refine r_istore C (by decide) dX8_cheapest_16 ?_
  refine r_weak C [some (.inr 84), some (.inr 1), none, some (.inl a3), some (.inl (-1 : Int32)), some (.inl (0 : Int32)), some (.inl (0 : Int32)), none, none] ⟨rfl, ⟨rfl, ⟨rfl, ⟨rfl, ⟨rfl, ⟨rfl, trivial⟩⟩⟩⟩⟩⟩ ?_
  exact L18 FU _ _ _ _ _ h
set_option maxHeartbeats 4000000 in
set_option maxRecDepth 100000 in
theorem mX8_downhill {l : Launch} {D : va_G} {ad : Nat → Nat} {cy : Nat → ClassId} (hl : l.stackTraces = false) (hI : Inj ad)   {σ τ : Mem} {a2 : Int32} {r : Int32} (h : fX8_downhill σ a2 = some (r, τ)) : Co l D ad cy yX8_downhill cX8_downhill 4 (Option.some Jvm.ClassFile.FieldType.int) 6 222 0 [.ref (ad 84), .ref (ad 1), .int a2] σ (zi r) τ := by
  refine co_of (av := [.inr 84, .inr 1, .inl a2]) hl hI (by decide +kernel) (Nat.le_of_ble_eq_true rfl) [some (.inr 84), some (.inr 1), some (.inl a2), none] rfl (fun V C => ?_)
  have C : Rl l D ad cy RX8 cX8_downhill 4 (Option.some Jvm.ClassFile.FieldType.int) 6 222 0 (zi r) τ V := C
  have L26 : ∀ (σ : Mem), fX8_downhill_L26   σ  = some (r, τ) → V 0 σ 26 [none, none, none, none] [] := by
    intro  σ  h
    refine r_iconst C ic_m1 dX8_downhill_26 ?_
    exact r_iret C rfl (Nat.le_of_ble_eq_true rfl) dX8_downhill_27 (re_i h)
  refine r_aload_n C dX8_downhill_0 rfl ?_
  refine r_aload_n C dX8_downhill_1 rfl ?_
  refine r_iload_n C dX8_downhill_2 rfl ?_
  refine r_iconst C ic_1 dX8_downhill_3 ?_
  refine bd_e h (fun v7 σ7 hf7 h => ?_)
  refine r_callVi C g_X8_cheapest hc_8 o_84 ml_X8_112 (mX8_cheapest hl hI  hf7) rfl rfl (by exact Nat.le_of_ble_eq_true rfl) ⟨Nat.le_of_ble_eq_true rfl, Nat.le_of_ble_eq_true rfl, Nat.le_of_ble_eq_true rfl⟩ dX8_downhill_4 ?_
  refine r_istore_n C (by decide) dX8_downhill_7 ?_
  refine r_iload_n C dX8_downhill_8 rfl ?_
  refine r_iconst C ic_m1 dX8_downhill_9 ?_
  refine r_ic_eq C (tgt := 26) h (by decide) dX8_downhill_10 (fun hc h => ?_) (fun hc h => ?_)
  · refine r_weak C [none, none, none, none] trivial ?_
    exact L26 _ h
  · refine r_aload_n C dX8_downhill_13 rfl ?_
    refine r_aload_n C dX8_downhill_14 rfl ?_
    refine r_iload_n C dX8_downhill_15 rfl ?_
    refine bd_e h (fun v8 σ8 hf8 h => ?_)
    refine r_callVi C g_X8_costAfter hc_8 o_84 ml_X8_102 (mX8_costAfter hl hI  hf8) rfl rfl (by exact Nat.le_of_ble_eq_true rfl) ⟨Nat.le_of_ble_eq_true rfl, Nat.le_of_ble_eq_true rfl, Nat.le_of_ble_eq_true rfl⟩ dX8_downhill_16 ?_
    refine r_aload_n C dX8_downhill_19 rfl ?_
    refine bd_e h (fun v9 σ9 hf9 h => ?_)
    refine r_callVi C g_X4_presentCost hc_4 o_1 ml_X8_59 (mX4_presentCost hl hI  hf9) rfl rfl (by exact Nat.le_of_ble_eq_true rfl) ⟨Nat.le_of_ble_eq_true rfl, Nat.le_of_ble_eq_true rfl, Nat.le_of_ble_eq_true rfl⟩ dX8_downhill_20 ?_
    refine r_ic_lt C (tgt := 28) h (by decide) dX8_downhill_23 (fun hc h => ?_) (fun hc h => ?_)
    · refine r_iload_n C dX8_downhill_28 rfl ?_
      exact r_iret C rfl (Nat.le_of_ble_eq_true rfl) dX8_downhill_29 (re_i h)
    · refine r_weak C [none, none, none, none] trivial ?_
      exact L26 _ h
set_option maxHeartbeats 4000000 in
set_option maxRecDepth 100000 in
theorem mX8_banLeftValues {l : Launch} {D : va_G} {ad : Nat → Nat} {cy : Nat → ClassId} (hl : l.stackTraces = false) (hI : Inj ad)   {σ τ : Mem} {a2 : Int32} (h : fX8_banLeftValues σ a2 = some τ) : Co l D ad cy yX8_banLeftValues cX8_banLeftValues 5 (Option.none : Option Jvm.ClassFile.FieldType) 1 100 0 [.ref (ad 84), .ref (ad 1), .int a2] σ (zv) τ := by
  refine co_of (av := [.inr 84, .inr 1, .inl a2]) hl hI (by decide +kernel) (Nat.le_of_ble_eq_true rfl) [some (.inr 84), some (.inr 1), some (.inl a2), none, none] rfl (fun V C => ?_)
  have C : Rl l D ad cy RX8 cX8_banLeftValues 5 (Option.none : Option Jvm.ClassFile.FieldType) 1 100 0 (zv) τ V := C
  have L2 : ∀ (n : Nat) (σ : Mem) (l2 l3 : Int32), fX8_banLeftValues_L2  n σ l2 l3 = some τ → V 0 σ 2 [some (.inr 84), some (.inr 1), some (.inl l2), some (.inl l3), none] [] := by
    intro n2
    induction n2 with
    | zero => intro σ l2 l3 h; exact no_e h
    | succ n2 ih2 =>
      have L58 : ∀ (σ : Mem) (l2 l3 : Int32), fX8_banLeftValues_L58 (fX8_banLeftValues_L2  n2)  σ l2 l3 = some τ → V 0 σ 58 [some (.inr 84), some (.inr 1), some (.inl l2), some (.inl l3), none] [] := by
        intro  σ l2 l3 h
        refine r_iinc C ic_1 (by decide) dX8_banLeftValues_58 rfl ?_
        refine r_goto C (tgt := 2) (by decide) dX8_banLeftValues_61 ?_
        exact ih2 _ _ _ h
      intro σ l2 l3 h
      have h : fX8_banLeftValues_B2  (fX8_banLeftValues_L2  n2) σ l2 l3 = some τ := h
      refine r_iload_n C dX8_banLeftValues_2 rfl ?_
      refine r_aload_n C dX8_banLeftValues_3 rfl ?_
      refine r_getI C ck_4 f_1_7 (by decide) fl_X8_92 rfl dX8_banLeftValues_4 ?_
      refine r_ic_ge C (tgt := 64) h (by decide) dX8_banLeftValues_7 (fun hc h => ?_) (fun hc h => ?_)
      · exact r_vret C rfl (Nat.le_of_ble_eq_true rfl) dX8_banLeftValues_64 (re_v h)
      · refine r_aload_n C dX8_banLeftValues_10 rfl ?_
        refine r_getR C ck_4 f_1_1 (by decide) fl_X8_69 rfl dX8_banLeftValues_11 ?_
        refine r_iload_n C dX8_banLeftValues_14 rfl ?_
        obtain ⟨hi, h⟩ := ck_e h
        refine r_iald C i_3 hi dX8_banLeftValues_15 ?_
        refine r_istore C (by decide) dX8_banLeftValues_16 ?_
        refine r_aload_n C dX8_banLeftValues_18 rfl ?_
        refine r_getR C ck_8 f_84_1 (by decide) fl_X8_15 rfl dX8_banLeftValues_19 ?_
        refine r_iload_n C dX8_banLeftValues_22 rfl ?_
        obtain ⟨hi, h⟩ := ck_e h
        refine r_iald C i_86 hi dX8_banLeftValues_23 ?_
        refine r_iload C dX8_banLeftValues_24 rfl ?_
        refine r_ic_eq C (tgt := 58) h (by decide) dX8_banLeftValues_26 (fun hc h => ?_) (fun hc h => ?_)
        · refine r_weak C [some (.inr 84), some (.inr 1), some (.inl l2), some (.inl l3), none] ⟨rfl, ⟨rfl, ⟨rfl, ⟨rfl, trivial⟩⟩⟩⟩ ?_
          exact L58 _ _ _ h
        · refine r_aload_n C dX8_banLeftValues_29 rfl ?_
          refine r_getR C ck_8 f_84_2 (by decide) fl_X8_20 rfl dX8_banLeftValues_30 ?_
          refine r_iload_n C dX8_banLeftValues_33 rfl ?_
          obtain ⟨ha7, h⟩ := ck_e h
          refine r_rrald C _ a_87 ha7 rfl dX8_banLeftValues_34 ?_
          refine r_iload C dX8_banLeftValues_35 rfl ?_
          refine r_aload_n C dX8_banLeftValues_37 rfl ?_
          refine r_getR C ck_8 f_84_2 (by decide) fl_X8_20 rfl dX8_banLeftValues_38 ?_
          refine r_iload_n C dX8_banLeftValues_41 rfl ?_
          obtain ⟨ha8, h⟩ := ck_e h
          refine r_rrald C _ a_87 ha8 rfl dX8_banLeftValues_42 ?_
          refine r_iload C dX8_banLeftValues_43 rfl ?_
          obtain ⟨hi, h⟩ := ck_e h
          refine r_iald C (row_87 ha8) hi dX8_banLeftValues_45 ?_
          refine r_aload_n C dX8_banLeftValues_46 rfl ?_
          refine r_getI C ck_8 f_84_7 (by decide) fl_X8_44 rfl dX8_banLeftValues_47 ?_
          refine r_iload_n C dX8_banLeftValues_50 rfl ?_
          refine r_iadd C dX8_banLeftValues_51 ?_
          refine r_iconst C ic_1 dX8_banLeftValues_52 ?_
          refine r_iadd C dX8_banLeftValues_53 ?_
          refine r_mmax C ml_X8_145 gm_max (by decide) (by exact Nat.le_of_ble_eq_true rfl) (by decide) dX8_banLeftValues_54 ?_
          obtain ⟨hi, h⟩ := ck_e h
          refine r_iast C (row_87 ha7) hi dX8_banLeftValues_57 h (fun σ9 h => ?_)
          refine r_weak C [some (.inr 84), some (.inr 1), some (.inl l2), some (.inl l3), none] ⟨rfl, ⟨rfl, ⟨rfl, ⟨rfl, trivial⟩⟩⟩⟩ ?_
          exact L58 _ _ _ h
  refine r_iconst C ic_0 dX8_banLeftValues_0 ?_
  refine r_istore_n C (by decide) dX8_banLeftValues_1 ?_
  exact L2 FU _ _ _ h
set_option maxHeartbeats 4000000 in
set_option maxRecDepth 100000 in
theorem mX8_keepIfBest {l : Launch} {D : va_G} {ad : Nat → Nat} {cy : Nat → ClassId} (hl : l.stackTraces = false) (hI : Inj ad)   {σ τ : Mem} {a2 : Int32} {r : Int32} (h : fX8_keepIfBest σ a2 = some (r, τ)) : Co l D ad cy yX8_keepIfBest cX8_keepIfBest 4 (Option.some Jvm.ClassFile.FieldType.boolean) 2 122 0 [.ref (ad 84), .ref (ad 1), .int a2] σ (zi r) τ := by
  refine co_of (av := [.inr 84, .inr 1, .inl a2]) hl hI (by decide +kernel) (Nat.le_of_ble_eq_true rfl) [some (.inr 84), some (.inr 1), some (.inl a2), none] rfl (fun V C => ?_)
  have C : Rl l D ad cy RX8 cX8_keepIfBest 4 (Option.some Jvm.ClassFile.FieldType.boolean) 2 122 0 (zi r) τ V := C
  have L24 : ∀ (σ : Mem) (l3 : Int32), fX8_keepIfBest_L24   σ l3 = some (r, τ) → V 0 σ 24 [none, none, none, some (.inl l3)] [] := by
    intro  σ l3 h
    refine r_iload_n C dX8_keepIfBest_24 rfl ?_
    obtain ⟨hz, h⟩ := ckz_e h
    exact r_zret C rfl (Nat.le_of_ble_eq_true rfl) hz dX8_keepIfBest_25 (re_i h)
  have L13 : ∀ (σ : Mem) (l2 s0 : Int32), fX8_keepIfBest_L13   σ l2 s0 = some (r, τ) → V 0 σ 13 [some (.inr 84), some (.inr 1), some (.inl l2), none] [.int s0] := by
    intro  σ l2 s0 h
    refine r_istore_n C (by decide) dX8_keepIfBest_13 ?_
    refine r_iload_n C dX8_keepIfBest_14 rfl ?_
    refine r_if_eq C (tgt := 24) h (by decide) dX8_keepIfBest_15 (fun hc h => ?_) (fun hc h => ?_)
    · refine r_weak C [none, none, none, some (.inl s0)] ⟨rfl, trivial⟩ ?_
      exact L24 _ _ h
    · refine r_aload_n C dX8_keepIfBest_18 rfl ?_
      refine r_aload_n C dX8_keepIfBest_19 rfl ?_
      refine r_iload_n C dX8_keepIfBest_20 rfl ?_
      refine bv_e h (fun σ3 hf3 h => ?_)
      refine r_callVv C g_X8_keepBest hc_8 o_84 ml_X8_65 (mX8_keepBest hl hI  hf3) rfl rfl (by exact Nat.le_of_ble_eq_true rfl) ⟨Nat.le_of_ble_eq_true rfl, Nat.le_of_ble_eq_true rfl, Nat.le_of_ble_eq_true rfl⟩ dX8_keepIfBest_21 ?_
      refine r_weak C [none, none, none, some (.inl s0)] ⟨rfl, trivial⟩ ?_
      exact L24 _ _ h
  refine r_iload_n C dX8_keepIfBest_0 rfl ?_
  refine r_aload_n C dX8_keepIfBest_1 rfl ?_
  refine r_getI C ck_8 f_84_5 (by decide) fl_X8_37 rfl dX8_keepIfBest_2 ?_
  refine r_ic_ge C (tgt := 12) h (by decide) dX8_keepIfBest_5 (fun hc h => ?_) (fun hc h => ?_)
  · refine r_iconst C ic_0 dX8_keepIfBest_12 ?_
    exact L13 _ _ _ h
  · refine r_iconst C ic_1 dX8_keepIfBest_8 ?_
    refine r_goto C (tgt := 13) (by decide) dX8_keepIfBest_9 ?_
    exact L13 _ _ _ h
set_option maxHeartbeats 4000000 in
set_option maxRecDepth 100000 in
theorem mX8_startAnew {l : Launch} {D : va_G} {ad : Nat → Nat} {cy : Nat → ClassId} (hl : l.stackTraces = false) (hI : Inj ad)   {σ τ : Mem} (h : fX8_startAnew σ = some τ) : Co l D ad cy yX8_startAnew cX8_startAnew 6 (Option.none : Option Jvm.ClassFile.FieldType) 4 172 0 [.ref (ad 84), .ref (ad 1), .ref (ad 83)] σ (zv) τ := by
  refine co_of (av := [.inr 84, .inr 1, .inr 83]) hl hI (by decide +kernel) (Nat.le_of_ble_eq_true rfl) [some (.inr 84), some (.inr 1), some (.inr 83), none, none, none] rfl (fun V C => ?_)
  have C : Rl l D ad cy RX8 cX8_startAnew 6 (Option.none : Option Jvm.ClassFile.FieldType) 4 172 0 (zv) τ V := C
  have L2 : ∀ (n : Nat) (σ : Mem) (l3 : Int32), fX8_startAnew_L2  n σ l3 = some τ → V 0 σ 2 [some (.inr 84), some (.inr 1), some (.inr 83), some (.inl l3), none, none] [] := by
    intro n2
    induction n2 with
    | zero => intro σ l3 h; exact no_e h
    | succ n2 ih2 =>
      have L46 : ∀ (σ : Mem) (l3 s1 s2 : Int32), fX8_startAnew_L46 (fX8_startAnew_L2  n2)  σ l3 s1 s2 = some τ → V 0 σ 46 [some (.inr 84), some (.inr 1), some (.inr 83), some (.inl l3), none, none] [.int s2, .int s1, .ref (ad 3)] := by
        intro  σ l3 s1 s2 h
        obtain ⟨hi, h⟩ := ck_e h
        refine r_iast C i_3 hi dX8_startAnew_46 h (fun σ17 h => ?_)
        refine r_iinc C ic_1 (by decide) dX8_startAnew_47 rfl ?_
        refine r_goto C (tgt := 2) (by decide) dX8_startAnew_50 ?_
        exact ih2 _ _ h
      intro σ l3 h
      have h : fX8_startAnew_B2  (fX8_startAnew_L2  n2) σ l3 = some τ := h
      refine r_iload_n C dX8_startAnew_2 rfl ?_
      refine r_aload_n C dX8_startAnew_3 rfl ?_
      refine r_getI C ck_4 f_1_7 (by decide) fl_X8_92 rfl dX8_startAnew_4 ?_
      refine r_ic_ge C (tgt := 53) h (by decide) dX8_startAnew_7 (fun hc h => ?_) (fun hc h => ?_)
      · refine r_aload_n C dX8_startAnew_53 rfl ?_
        refine bv_e h (fun σ18 hf18 h => ?_)
        refine r_callVv C g_X8_freeAll hc_8 o_84 ml_X8_56 (mX8_freeAll hl hI  hf18) rfl rfl (by exact Nat.le_of_ble_eq_true rfl) ⟨Nat.le_of_ble_eq_true rfl, Nat.le_of_ble_eq_true rfl, Nat.le_of_ble_eq_true rfl⟩ dX8_startAnew_54 ?_
        refine r_aload_n C dX8_startAnew_57 rfl ?_
        refine r_iconst C ic_0 dX8_startAnew_58 ?_
        refine r_putI C ck_8 f_84_8 (by decide) fl_X8_47 rfl rfl rfl rfl rfl dX8_startAnew_59 h (fun σ19 h => ?_)
        refine r_aload_n C dX8_startAnew_62 rfl ?_
        refine r_dup C rfl dX8_startAnew_63 ?_
        refine r_getI C ck_8 f_84_9 (by decide) fl_X8_50 rfl dX8_startAnew_64 ?_
        refine r_iconst C ic_1 dX8_startAnew_67 ?_
        refine r_iadd C dX8_startAnew_68 ?_
        refine r_putI C ck_8 f_84_9 (by decide) fl_X8_50 rfl rfl rfl rfl rfl dX8_startAnew_69 h (fun σ20 h => ?_)
        refine r_aload_n C dX8_startAnew_72 rfl ?_
        refine r_aload_n C dX8_startAnew_73 rfl ?_
        refine r_aload_n C dX8_startAnew_74 rfl ?_
        refine r_aload_n C dX8_startAnew_75 rfl ?_
        refine r_getR C ck_4 f_1_1 (by decide) fl_X8_69 rfl dX8_startAnew_76 ?_
        refine bd_e h (fun v21 σ21 hf21 h => ?_)
        refine r_callVi C g_X4_costIn hc_4 o_1 ml_X8_88 (mX4_costIn hl hI i_3 hf21) rfl rfl (by exact Nat.le_of_ble_eq_true rfl) ⟨Nat.le_of_ble_eq_true rfl, Nat.le_of_ble_eq_true rfl, Nat.le_of_ble_eq_true rfl⟩ dX8_startAnew_79 ?_
        refine bd_e h (fun v22 σ22 hf22 h => ?_)
        refine r_callVi C g_X8_keepIfBest hc_8 o_84 ml_X8_120 (mX8_keepIfBest hl hI  hf22) rfl rfl (by exact Nat.le_of_ble_eq_true rfl) ⟨Nat.le_of_ble_eq_true rfl, Nat.le_of_ble_eq_true rfl, Nat.le_of_ble_eq_true rfl⟩ dX8_startAnew_82 ?_
        refine r_pop C rfl dX8_startAnew_85 ?_
        exact r_vret C rfl (Nat.le_of_ble_eq_true rfl) dX8_startAnew_86 (re_v h)
      · refine r_aload_n C dX8_startAnew_10 rfl ?_
        refine bd_e h (fun v23 σ23 hf23 h => ?_)
        refine r_callVi C g_X5_nextSeed hc_5 o_83 ml_X8_151 (mX5_nextSeed hl hI  hf23) rfl rfl (by exact Nat.le_of_ble_eq_true rfl) ⟨Nat.le_of_ble_eq_true rfl, Nat.le_of_ble_eq_true rfl, Nat.le_of_ble_eq_true rfl⟩ dX8_startAnew_11 ?_
        refine r_bipush C bp_16 dX8_startAnew_14 ?_
        refine r_ishr C dX8_startAnew_16 ?_
        refine r_istoreL C h (by decide) dX8_startAnew_17 (fun x24 h => ?_)
        refine r_aload_n C dX8_startAnew_19 rfl ?_
        refine r_getR C ck_4 f_1_0 (by decide) fl_X8_154 rfl dX8_startAnew_20 ?_
        refine r_iload_n C dX8_startAnew_23 rfl ?_
        obtain ⟨hi, h⟩ := ck_e h
        refine r_iald C i_2 hi dX8_startAnew_24 ?_
        refine r_istore C (by decide) dX8_startAnew_25 ?_
        refine r_aload_n C dX8_startAnew_27 rfl ?_
        refine r_getR C ck_4 f_1_1 (by decide) fl_X8_69 rfl dX8_startAnew_28 ?_
        refine r_iload_n C dX8_startAnew_31 rfl ?_
        refine r_iload C dX8_startAnew_32 rfl ?_
        refine r_if_le C (tgt := 45) h (by decide) dX8_startAnew_34 (fun hc h => ?_) (fun hc h => ?_)
        · refine r_iconst C ic_0 dX8_startAnew_45 ?_
          refine r_weak C [some (.inr 84), some (.inr 1), some (.inr 83), some (.inl l3), none, none] ⟨rfl, ⟨rfl, ⟨rfl, ⟨rfl, trivial⟩⟩⟩⟩ ?_
          exact L46 _ _ _ _ h
        · refine r_iload C dX8_startAnew_37 rfl ?_
          refine r_iload C dX8_startAnew_39 rfl ?_
          obtain ⟨hy, h⟩ := ckn_e h
          refine r_irem C dX8_startAnew_41 hy ?_
          refine r_goto C (tgt := 46) (by decide) dX8_startAnew_42 ?_
          refine r_weak C [some (.inr 84), some (.inr 1), some (.inr 83), some (.inl l3), none, none] ⟨rfl, ⟨rfl, ⟨rfl, ⟨rfl, trivial⟩⟩⟩⟩ ?_
          exact L46 _ _ _ _ h
  refine r_iconst C ic_0 dX8_startAnew_0 ?_
  refine r_istore_n C (by decide) dX8_startAnew_1 ?_
  exact L2 FU _ _ h
set_option maxHeartbeats 4000000 in
set_option maxRecDepth 100000 in
theorem mX8_tryStep {l : Launch} {D : va_G} {ad : Nat → Nat} {cy : Nat → ClassId} (hl : l.stackTraces = false) (hI : Inj ad)   {σ τ : Mem} {r : Int32} (h : fX8_tryStep σ = some (r, τ)) : Co l D ad cy yX8_tryStep cX8_tryStep 6 (Option.some Jvm.ClassFile.FieldType.boolean) 6 222 0 [.ref (ad 84), .ref (ad 1), .ref (ad 83)] σ (zi r) τ := by
  refine co_of (av := [.inr 84, .inr 1, .inr 83]) hl hI (by decide +kernel) (Nat.le_of_ble_eq_true rfl) [some (.inr 84), some (.inr 1), some (.inr 83), none, none, none] rfl (fun V C => ?_)
  have C : Rl l D ad cy RX8 cX8_tryStep 6 (Option.some Jvm.ClassFile.FieldType.boolean) 6 222 0 (zi r) τ V := C
  have L120 : ∀ (σ : Mem), fX8_tryStep_L120   σ  = some (r, τ) → V 0 σ 120 [none, none, none, none, none, none] [] := by
    intro  σ  h
    refine r_iconst C ic_1 dX8_tryStep_120 ?_
    exact r_zret C rfl (Nat.le_of_ble_eq_true rfl) (Or.inr rfl) dX8_tryStep_121 (re_i h)
  have L100 : ∀ (σ : Mem) (s1 : Int32), fX8_tryStep_L100   σ s1 = some (r, τ) → V 0 σ 100 [some (.inr 84), some (.inr 1), some (.inr 83), none, none, none] [.int s1, .ref (ad 84)] := by
    intro  σ s1 h
    refine r_putI C ck_8 f_84_8 (by decide) fl_X8_47 rfl rfl rfl rfl rfl dX8_tryStep_100 h (fun σ21 h => ?_)
    refine r_aload_n C dX8_tryStep_103 rfl ?_
    refine r_getI C ck_8 f_84_8 (by decide) fl_X8_47 rfl dX8_tryStep_104 ?_
    refine r_aload_n C dX8_tryStep_107 rfl ?_
    refine r_getI C ck_5 f_83_2 (by decide) fl_X8_138 rfl dX8_tryStep_108 ?_
    refine r_ic_lt C (tgt := 120) h (by decide) dX8_tryStep_111 (fun hc h => ?_) (fun hc h => ?_)
    · refine r_weak C [none, none, none, none, none, none] trivial ?_
      exact L120 _ h
    · refine r_aload_n C dX8_tryStep_114 rfl ?_
      refine r_aload_n C dX8_tryStep_115 rfl ?_
      refine r_aload_n C dX8_tryStep_116 rfl ?_
      refine bv_e h (fun σ22 hf22 h => ?_)
      refine r_callVv C g_X8_startAnew hc_8 o_84 ml_X8_141 (mX8_startAnew hl hI  hf22) rfl rfl (by exact Nat.le_of_ble_eq_true rfl) ⟨Nat.le_of_ble_eq_true rfl, Nat.le_of_ble_eq_true rfl, Nat.le_of_ble_eq_true rfl⟩ dX8_tryStep_117 ?_
      refine r_weak C [none, none, none, none, none, none] trivial ?_
      exact L120 _ h
  refine r_aload_n C dX8_tryStep_0 rfl ?_
  refine r_aload_n C dX8_tryStep_1 rfl ?_
  refine r_aload_n C dX8_tryStep_2 rfl ?_
  refine r_getI C ck_5 f_83_0 (by decide) fl_X8_123 rfl dX8_tryStep_3 ?_
  refine r_iconst C ic_0 dX8_tryStep_6 ?_
  refine bd_e h (fun v23 σ23 hf23 h => ?_)
  refine r_callVi C g_X8_cheapest hc_8 o_84 ml_X8_112 (mX8_cheapest hl hI  hf23) rfl rfl (by exact Nat.le_of_ble_eq_true rfl) ⟨Nat.le_of_ble_eq_true rfl, Nat.le_of_ble_eq_true rfl, Nat.le_of_ble_eq_true rfl⟩ dX8_tryStep_7 ?_
  refine r_istore_n C (by decide) dX8_tryStep_10 ?_
  refine r_iload_n C dX8_tryStep_11 rfl ?_
  refine r_iconst C ic_m1 dX8_tryStep_12 ?_
  refine r_ic_ne C (tgt := 18) h (by decide) dX8_tryStep_13 (fun hc h => ?_) (fun hc h => ?_)
  · refine r_aload_n C dX8_tryStep_18 rfl ?_
    refine bd_e h (fun v24 σ24 hf24 h => ?_)
    refine r_callVi C g_X4_presentCost hc_4 o_1 ml_X8_59 (mX4_presentCost hl hI  hf24) rfl rfl (by exact Nat.le_of_ble_eq_true rfl) ⟨Nat.le_of_ble_eq_true rfl, Nat.le_of_ble_eq_true rfl, Nat.le_of_ble_eq_true rfl⟩ dX8_tryStep_19 ?_
    refine r_istore C (by decide) dX8_tryStep_22 ?_
    refine r_aload_n C dX8_tryStep_24 rfl ?_
    refine r_aload_n C dX8_tryStep_25 rfl ?_
    refine r_iload_n C dX8_tryStep_26 rfl ?_
    refine bd_e h (fun v25 σ25 hf25 h => ?_)
    refine r_callVi C g_X8_costAfter hc_8 o_84 ml_X8_102 (mX8_costAfter hl hI  hf25) rfl rfl (by exact Nat.le_of_ble_eq_true rfl) ⟨Nat.le_of_ble_eq_true rfl, Nat.le_of_ble_eq_true rfl, Nat.le_of_ble_eq_true rfl⟩ dX8_tryStep_27 ?_
    refine r_istore C (by decide) dX8_tryStep_30 ?_
    refine r_aload_n C dX8_tryStep_32 rfl ?_
    refine r_dup C rfl dX8_tryStep_33 ?_
    refine r_getI C ck_8 f_84_7 (by decide) fl_X8_44 rfl dX8_tryStep_34 ?_
    refine r_iconst C ic_1 dX8_tryStep_37 ?_
    refine r_iadd C dX8_tryStep_38 ?_
    refine r_putI C ck_8 f_84_7 (by decide) fl_X8_44 rfl rfl rfl rfl rfl dX8_tryStep_39 h (fun σ26 h => ?_)
    refine r_aload_n C dX8_tryStep_42 rfl ?_
    refine r_aload_n C dX8_tryStep_43 rfl ?_
    refine r_aload_n C dX8_tryStep_44 rfl ?_
    refine r_getI C ck_5 f_83_1 (by decide) fl_X8_128 rfl dX8_tryStep_45 ?_
    refine bv_e h (fun σ27 hf27 h => ?_)
    refine r_callVv C g_X8_banLeftValues hc_8 o_84 ml_X8_131 (mX8_banLeftValues hl hI  hf27) rfl rfl (by exact Nat.le_of_ble_eq_true rfl) ⟨Nat.le_of_ble_eq_true rfl, Nat.le_of_ble_eq_true rfl, Nat.le_of_ble_eq_true rfl⟩ dX8_tryStep_48 ?_
    refine r_aload_n C dX8_tryStep_51 rfl ?_
    refine r_aload_n C dX8_tryStep_52 rfl ?_
    refine r_getR C ck_8 f_84_1 (by decide) fl_X8_15 rfl dX8_tryStep_53 ?_
    refine bv_e h (fun σ28 hf28 h => ?_)
    refine r_callVv C g_X4_takeValues hc_4 o_1 ml_X8_116 (mX4_takeValues hl hI i_86 hf28) rfl rfl (by exact Nat.le_of_ble_eq_true rfl) ⟨Nat.le_of_ble_eq_true rfl, Nat.le_of_ble_eq_true rfl, Nat.le_of_ble_eq_true rfl⟩ dX8_tryStep_56 ?_
    refine r_aload_n C dX8_tryStep_59 rfl ?_
    refine r_getR C ck_8 f_84_4 (by decide) fl_X8_33 rfl dX8_tryStep_60 ?_
    refine r_aload_n C dX8_tryStep_63 rfl ?_
    refine r_getR C ck_8 f_84_3 (by decide) fl_X8_26 rfl dX8_tryStep_64 ?_
    refine r_iload_n C dX8_tryStep_67 rfl ?_
    refine r_iload C dX8_tryStep_68 rfl ?_
    refine r_iload C dX8_tryStep_70 rfl ?_
    refine r_aload_n C dX8_tryStep_72 rfl ?_
    refine r_getI C ck_8 f_84_7 (by decide) fl_X8_44 rfl dX8_tryStep_73 ?_
    refine bv_e h (fun σ29 hf29 h => ?_)
    refine r_callVv C g_X6_put hc_6 o_104 ml_X8_134 (mX6_put hl hI  hf29) rfl rfl (by exact Nat.le_of_ble_eq_true rfl) ⟨Nat.le_of_ble_eq_true rfl, Nat.le_of_ble_eq_true rfl, Nat.le_of_ble_eq_true rfl⟩ dX8_tryStep_76 ?_
    refine r_aload_n C dX8_tryStep_79 rfl ?_
    refine r_aload_n C dX8_tryStep_80 rfl ?_
    refine r_aload_n C dX8_tryStep_81 rfl ?_
    refine r_iload C dX8_tryStep_82 rfl ?_
    refine bd_e h (fun v30 σ30 hf30 h => ?_)
    refine r_callVi C g_X8_keepIfBest hc_8 o_84 ml_X8_120 (mX8_keepIfBest hl hI  hf30) rfl rfl (by exact Nat.le_of_ble_eq_true rfl) ⟨Nat.le_of_ble_eq_true rfl, Nat.le_of_ble_eq_true rfl, Nat.le_of_ble_eq_true rfl⟩ dX8_tryStep_84 ?_
    refine r_if_eq C (tgt := 94) h (by decide) dX8_tryStep_87 (fun hc h => ?_) (fun hc h => ?_)
    · refine r_aload_n C dX8_tryStep_94 rfl ?_
      refine r_getI C ck_8 f_84_8 (by decide) fl_X8_47 rfl dX8_tryStep_95 ?_
      refine r_iconst C ic_1 dX8_tryStep_98 ?_
      refine r_iadd C dX8_tryStep_99 ?_
      refine r_weak C [some (.inr 84), some (.inr 1), some (.inr 83), none, none, none] ⟨rfl, ⟨rfl, ⟨rfl, trivial⟩⟩⟩ ?_
      exact L100 _ _ h
    · refine r_iconst C ic_0 dX8_tryStep_90 ?_
      refine r_goto C (tgt := 100) (by decide) dX8_tryStep_91 ?_
      refine r_weak C [some (.inr 84), some (.inr 1), some (.inr 83), none, none, none] ⟨rfl, ⟨rfl, ⟨rfl, trivial⟩⟩⟩ ?_
      exact L100 _ _ h
  · refine r_iconst C ic_0 dX8_tryStep_16 ?_
    exact r_zret C rfl (Nat.le_of_ble_eq_true rfl) (Or.inl rfl) dX8_tryStep_17 (re_i h)
set_option maxHeartbeats 4000000 in
set_option maxRecDepth 100000 in
theorem mX8_goDown {l : Launch} {D : va_G} {ad : Nat → Nat} {cy : Nat → ClassId} (hl : l.stackTraces = false) (hI : Inj ad)   {σ τ : Mem} {a2 : Int32} (h : fX8_goDown σ a2 = some τ) : Co l D ad cy yX8_goDown cX8_goDown 4 (Option.none : Option Jvm.ClassFile.FieldType) 5 194 0 [.ref (ad 84), .ref (ad 1), .int a2] σ (zv) τ := by
  refine co_of (av := [.inr 84, .inr 1, .inl a2]) hl hI (by decide +kernel) (Nat.le_of_ble_eq_true rfl) [some (.inr 84), some (.inr 1), some (.inl a2), none] rfl (fun V C => ?_)
  have C : Rl l D ad cy RX8 cX8_goDown 4 (Option.none : Option Jvm.ClassFile.FieldType) 5 194 0 (zv) τ V := C
  refine r_aload_n C dX8_goDown_0 rfl ?_
  refine r_aload_n C dX8_goDown_1 rfl ?_
  refine r_iload_n C dX8_goDown_2 rfl ?_
  refine bd_e h (fun v7 σ7 hf7 h => ?_)
  refine r_callVi C g_X8_costAfter hc_8 o_84 ml_X8_102 (mX8_costAfter hl hI  hf7) rfl rfl (by exact Nat.le_of_ble_eq_true rfl) ⟨Nat.le_of_ble_eq_true rfl, Nat.le_of_ble_eq_true rfl, Nat.le_of_ble_eq_true rfl⟩ dX8_goDown_3 ?_
  refine r_istore_n C (by decide) dX8_goDown_6 ?_
  refine r_aload_n C dX8_goDown_7 rfl ?_
  refine r_aload_n C dX8_goDown_8 rfl ?_
  refine r_getR C ck_8 f_84_1 (by decide) fl_X8_15 rfl dX8_goDown_9 ?_
  refine bv_e h (fun σ8 hf8 h => ?_)
  refine r_callVv C g_X4_takeValues hc_4 o_1 ml_X8_116 (mX4_takeValues hl hI i_86 hf8) rfl rfl (by exact Nat.le_of_ble_eq_true rfl) ⟨Nat.le_of_ble_eq_true rfl, Nat.le_of_ble_eq_true rfl, Nat.le_of_ble_eq_true rfl⟩ dX8_goDown_12 ?_
  refine r_aload_n C dX8_goDown_15 rfl ?_
  refine r_aload_n C dX8_goDown_16 rfl ?_
  refine r_iload_n C dX8_goDown_17 rfl ?_
  refine bd_e h (fun v9 σ9 hf9 h => ?_)
  refine r_callVi C g_X8_keepIfBest hc_8 o_84 ml_X8_120 (mX8_keepIfBest hl hI  hf9) rfl rfl (by exact Nat.le_of_ble_eq_true rfl) ⟨Nat.le_of_ble_eq_true rfl, Nat.le_of_ble_eq_true rfl, Nat.le_of_ble_eq_true rfl⟩ dX8_goDown_18 ?_
  refine r_pop C rfl dX8_goDown_21 ?_
  exact r_vret C rfl (Nat.le_of_ble_eq_true rfl) dX8_goDown_22 (re_v h)
set_option maxHeartbeats 4000000 in
set_option maxRecDepth 100000 in
theorem mX7_weigh {l : Launch} {D : va_G} {ad : Nat → Nat} {cy : Nat → ClassId} (hl : l.stackTraces = false) (hI : Inj ad)   {σ τ : Mem} (h : fX7_weigh σ = some τ) : Co l D ad cy yX7_weigh cX7_weigh 6 (Option.none : Option Jvm.ClassFile.FieldType) 3 149 0 [.ref (ad 113), .ref (ad 1)] σ (zv) τ := by
  refine co_of (av := [.inr 113, .inr 1]) hl hI (by decide +kernel) (Nat.le_of_ble_eq_true rfl) [some (.inr 113), some (.inr 1), none, none, none, none] rfl (fun V C => ?_)
  have C : Rl l D ad cy RX7 cX7_weigh 6 (Option.none : Option Jvm.ClassFile.FieldType) 3 149 0 (zv) τ V := C
  have L7 : ∀ (n : Nat) (σ : Mem) (l2 l3 l4 : Int32), fX7_weigh_L7  n σ l2 l3 l4 = some τ → V 0 σ 7 [some (.inr 113), some (.inr 1), some (.inl l2), some (.inl l3), some (.inl l4), none] [] := by
    intro n7
    induction n7 with
    | zero => intro σ l2 l3 l4 h; exact no_e h
    | succ n7 ih7 =>
      have L53 : ∀ (σ : Mem) (l2 l3 l4 : Int32), fX7_weigh_L53 (fX7_weigh_L7  n7)  σ l2 l3 l4 = some τ → V 0 σ 53 [some (.inr 113), some (.inr 1), some (.inl l2), some (.inl l3), some (.inl l4), none] [] := by
        intro  σ l2 l3 l4 h
        refine r_iinc C ic_1 (by decide) dX7_weigh_53 rfl ?_
        refine r_goto C (tgt := 7) (by decide) dX7_weigh_56 ?_
        exact ih7 _ _ _ _ h
      intro σ l2 l3 l4 h
      have h : fX7_weigh_B7  (fX7_weigh_L7  n7) σ l2 l3 l4 = some τ := h
      refine r_iload C dX7_weigh_7 rfl ?_
      refine r_aload_n C dX7_weigh_9 rfl ?_
      refine r_getI C ck_4 f_1_8 (by decide) fl_X7_55 rfl dX7_weigh_10 ?_
      refine r_ic_ge C (tgt := 59) h (by decide) dX7_weigh_13 (fun hc h => ?_) (fun hc h => ?_)
      · refine r_aload_n C dX7_weigh_59 rfl ?_
        refine r_aload_n C dX7_weigh_60 rfl ?_
        refine r_getI C ck_7 f_113_5 (by decide) fl_X7_29 rfl dX7_weigh_61 ?_
        refine r_iload_n C dX7_weigh_64 rfl ?_
        refine r_mmax C ml_X7_65 gm_max (by decide) (by exact Nat.le_of_ble_eq_true rfl) (by decide) dX7_weigh_65 ?_
        refine r_putI C ck_7 f_113_5 (by decide) fl_X7_29 rfl rfl rfl rfl rfl dX7_weigh_68 h (fun σ21 h => ?_)
        refine r_iload_n C dX7_weigh_71 rfl ?_
        refine r_aload_n C dX7_weigh_72 rfl ?_
        refine r_getI C ck_7 f_113_3 (by decide) fl_X7_22 rfl dX7_weigh_73 ?_
        refine r_ic_ge C (tgt := 112) h (by decide) dX7_weigh_76 (fun hc h => ?_) (fun hc h => ?_)
        · refine r_iload_n C dX7_weigh_112 rfl ?_
          refine r_aload_n C dX7_weigh_113 rfl ?_
          refine r_getI C ck_7 f_113_3 (by decide) fl_X7_22 rfl dX7_weigh_114 ?_
          refine r_ic_ne C (tgt := 140) h (by decide) dX7_weigh_117 (fun hc h => ?_) (fun hc h => ?_)
          · exact r_vret C rfl (Nat.le_of_ble_eq_true rfl) dX7_weigh_140 (re_v h)
          · refine r_aload_n C dX7_weigh_120 rfl ?_
            refine r_dup C rfl dX7_weigh_121 ?_
            refine r_getI C ck_7 f_113_4 (by decide) fl_X7_26 rfl dX7_weigh_122 ?_
            refine r_iconst C ic_1 dX7_weigh_125 ?_
            refine r_iadd C dX7_weigh_126 ?_
            refine r_putI C ck_7 f_113_4 (by decide) fl_X7_26 rfl rfl rfl rfl rfl dX7_weigh_127 h (fun σ22 h => ?_)
            refine r_aload_n C dX7_weigh_130 rfl ?_
            refine r_dup C rfl dX7_weigh_131 ?_
            refine r_getI C ck_7 f_113_6 (by decide) fl_X7_32 rfl dX7_weigh_132 ?_
            refine r_iload_n C dX7_weigh_135 rfl ?_
            refine r_iand C dX7_weigh_136 ?_
            refine r_putI C ck_7 f_113_6 (by decide) fl_X7_32 rfl rfl rfl rfl rfl dX7_weigh_137 h (fun σ23 h => ?_)
            exact r_vret C rfl (Nat.le_of_ble_eq_true rfl) dX7_weigh_140 (re_v h)
        · refine r_aload_n C dX7_weigh_79 rfl ?_
          refine r_iload_n C dX7_weigh_80 rfl ?_
          refine r_putI C ck_7 f_113_3 (by decide) fl_X7_22 rfl rfl rfl rfl rfl dX7_weigh_81 h (fun σ24 h => ?_)
          refine r_aload_n C dX7_weigh_84 rfl ?_
          refine r_iconst C ic_1 dX7_weigh_85 ?_
          refine r_putI C ck_7 f_113_4 (by decide) fl_X7_26 rfl rfl rfl rfl rfl dX7_weigh_86 h (fun σ25 h => ?_)
          refine r_aload_n C dX7_weigh_89 rfl ?_
          refine r_iload_n C dX7_weigh_90 rfl ?_
          refine r_putI C ck_7 f_113_6 (by decide) fl_X7_32 rfl rfl rfl rfl rfl dX7_weigh_91 h (fun σ26 h => ?_)
          refine r_aload_n C dX7_weigh_94 rfl ?_
          refine r_getR C ck_7 f_113_0 (by decide) fl_X7_9 rfl dX7_weigh_95 ?_
          refine r_iconst C ic_0 dX7_weigh_98 ?_
          refine r_aload_n C dX7_weigh_99 rfl ?_
          refine r_getR C ck_7 f_113_1 (by decide) fl_X7_15 rfl dX7_weigh_100 ?_
          refine r_iconst C ic_0 dX7_weigh_103 ?_
          refine r_bipush C bp_10 dX7_weigh_104 ?_
          obtain ⟨hi, h⟩ := ckc_e h
          refine r_copy C i_114 i_115 hi ml_X7_71 gm_arraycopy (by decide) (by exact Nat.le_of_ble_eq_true rfl) dX7_weigh_106 h (fun σ27 h => ?_)
          refine r_goto C (tgt := 140) (by decide) dX7_weigh_109 ?_
          exact r_vret C rfl (Nat.le_of_ble_eq_true rfl) dX7_weigh_140 (re_v h)
      · refine r_aload_n C dX7_weigh_16 rfl ?_
        refine r_iload C dX7_weigh_17 rfl ?_
        refine r_aload_n C dX7_weigh_19 rfl ?_
        refine r_getR C ck_7 f_113_0 (by decide) fl_X7_9 rfl dX7_weigh_20 ?_
        refine bd_e h (fun v28 σ28 hf28 h => ?_)
        refine r_callVi C g_X4_violationIn hc_4 o_1 ml_X7_58 (mX4_violationIn hl hI i_114 hf28) rfl rfl (by exact Nat.le_of_ble_eq_true rfl) ⟨Nat.le_of_ble_eq_true rfl, Nat.le_of_ble_eq_true rfl, Nat.le_of_ble_eq_true rfl⟩ dX7_weigh_23 ?_
        refine r_istore C (by decide) dX7_weigh_26 ?_
        refine r_iload_n C dX7_weigh_28 rfl ?_
        refine r_aload_n C dX7_weigh_29 rfl ?_
        refine r_getR C ck_4 f_1_5 (by decide) fl_X7_62 rfl dX7_weigh_30 ?_
        refine r_iload C dX7_weigh_33 rfl ?_
        obtain ⟨hi, h⟩ := ck_e h
        refine r_iald C i_7 hi dX7_weigh_35 ?_
        refine r_iload C dX7_weigh_36 rfl ?_
        refine r_imul C dX7_weigh_38 ?_
        refine r_iadd C dX7_weigh_39 ?_
        refine r_istoreL_n C h (by decide) dX7_weigh_40 (fun x29 h => ?_)
        refine r_iload C dX7_weigh_41 rfl ?_
        refine r_if_le C (tgt := 53) h (by decide) dX7_weigh_43 (fun hc h => ?_) (fun hc h => ?_)
        · refine r_weak C [some (.inr 113), some (.inr 1), some (.inl x29), some (.inl l3), some (.inl l4), none] ⟨rfl, ⟨rfl, ⟨rfl, ⟨rfl, ⟨rfl, trivial⟩⟩⟩⟩⟩ ?_
          exact L53 _ _ _ _ h
        · refine r_iload_n C dX7_weigh_46 rfl ?_
          refine r_iconst C ic_1 dX7_weigh_47 ?_
          refine r_iload C dX7_weigh_48 rfl ?_
          refine r_ishl C dX7_weigh_50 ?_
          refine r_ior C dX7_weigh_51 ?_
          refine r_istoreL_n C h (by decide) dX7_weigh_52 (fun x30 h => ?_)
          refine r_weak C [some (.inr 113), some (.inr 1), some (.inl x29), some (.inl x30), some (.inl l4), none] ⟨rfl, ⟨rfl, ⟨rfl, ⟨rfl, ⟨rfl, trivial⟩⟩⟩⟩⟩ ?_
          exact L53 _ _ _ _ h
  refine r_iconst C ic_0 dX7_weigh_0 ?_
  refine r_istore_n C (by decide) dX7_weigh_1 ?_
  refine r_iconst C ic_0 dX7_weigh_2 ?_
  refine r_istore_n C (by decide) dX7_weigh_3 ?_
  refine r_iconst C ic_0 dX7_weigh_4 ?_
  refine r_istore C (by decide) dX7_weigh_5 ?_
  exact L7 FU _ _ _ _ h
set_option maxHeartbeats 4000000 in
set_option maxRecDepth 100000 in
theorem mX7_advance {l : Launch} {D : va_G} {ad : Nat → Nat} {cy : Nat → ClassId} (hl : l.stackTraces = false) (hI : Inj ad)   {σ τ : Mem} (h : fX7_advance σ = some τ) : Co l D ad cy yX7_advance cX7_advance 3 (Option.none : Option Jvm.ClassFile.FieldType) 1 100 0 [.ref (ad 113), .ref (ad 1)] σ (zv) τ := by
  refine co_of (av := [.inr 113, .inr 1]) hl hI (by decide +kernel) (Nat.le_of_ble_eq_true rfl) [some (.inr 113), some (.inr 1), none] rfl (fun V C => ?_)
  have C : Rl l D ad cy RX7 cX7_advance 3 (Option.none : Option Jvm.ClassFile.FieldType) 1 100 0 (zv) τ V := C
  have L7 : ∀ (n : Nat) (σ : Mem) (l2 : Int32), fX7_advance_L7  n σ l2 = some τ → V 0 σ 7 [some (.inr 113), some (.inr 1), some (.inl l2)] [] := by
    intro n7
    induction n7 with
    | zero => intro σ l2 h; exact no_e h
    | succ n7 ih7 =>
      intro σ l2 h
      have h : fX7_advance_B7  (fX7_advance_L7  n7) σ l2 = some τ := h
      refine r_iload_n C dX7_advance_7 rfl ?_
      refine r_if_lt C (tgt := 50) h (by decide) dX7_advance_8 (fun hc h => ?_) (fun hc h => ?_)
      · exact r_vret C rfl (Nat.le_of_ble_eq_true rfl) dX7_advance_50 (re_v h)
      · refine r_aload_n C dX7_advance_11 rfl ?_
        refine r_getR C ck_7 f_113_0 (by decide) fl_X7_9 rfl dX7_advance_12 ?_
        refine r_iload_n C dX7_advance_15 rfl ?_
        refine r_dup2 C rfl rfl dX7_advance_16 ?_
        obtain ⟨hi, h⟩ := ck_e h
        refine r_iald C i_114 hi dX7_advance_17 ?_
        refine r_iconst C ic_1 dX7_advance_18 ?_
        refine r_iadd C dX7_advance_19 ?_
        obtain ⟨hi, h⟩ := ck_e h
        refine r_iast C i_114 hi dX7_advance_20 h (fun σ5 h => ?_)
        refine r_aload_n C dX7_advance_21 rfl ?_
        refine r_getR C ck_7 f_113_0 (by decide) fl_X7_9 rfl dX7_advance_22 ?_
        refine r_iload_n C dX7_advance_25 rfl ?_
        obtain ⟨hi, h⟩ := ck_e h
        refine r_iald C i_114 hi dX7_advance_26 ?_
        refine r_aload_n C dX7_advance_27 rfl ?_
        refine r_getR C ck_4 f_1_0 (by decide) fl_X7_80 rfl dX7_advance_28 ?_
        refine r_iload_n C dX7_advance_31 rfl ?_
        obtain ⟨hi, h⟩ := ck_e h
        refine r_iald C i_2 hi dX7_advance_32 ?_
        refine r_ic_ge C (tgt := 37) h (by decide) dX7_advance_33 (fun hc h => ?_) (fun hc h => ?_)
        · refine r_aload_n C dX7_advance_37 rfl ?_
          refine r_getR C ck_7 f_113_0 (by decide) fl_X7_9 rfl dX7_advance_38 ?_
          refine r_iload_n C dX7_advance_41 rfl ?_
          refine r_iconst C ic_0 dX7_advance_42 ?_
          obtain ⟨hi, h⟩ := ck_e h
          refine r_iast C i_114 hi dX7_advance_43 h (fun σ6 h => ?_)
          refine r_iinc C ic_m1 (by decide) dX7_advance_44 rfl ?_
          refine r_goto C (tgt := 7) (by decide) dX7_advance_47 ?_
          exact ih7 _ _ h
        · exact r_vret C rfl (Nat.le_of_ble_eq_true rfl) dX7_advance_36 (re_v h)
  refine r_aload_n C dX7_advance_0 rfl ?_
  refine r_getI C ck_4 f_1_7 (by decide) fl_X7_77 rfl dX7_advance_1 ?_
  refine r_iconst C ic_1 dX7_advance_4 ?_
  refine r_isub C dX7_advance_5 ?_
  refine r_istore_n C (by decide) dX7_advance_6 ?_
  exact L7 FU _ _ h
set_option maxHeartbeats 4000000 in
set_option maxRecDepth 100000 in
theorem mX7_explore {l : Launch} {D : va_G} {ad : Nat → Nat} {cy : Nat → ClassId} (hl : l.stackTraces = false) (hI : Inj ad)   {σ τ : Mem} (h : fX7_explore σ = some τ) : Co l D ad cy yX7_explore cX7_explore 4 (Option.none : Option Jvm.ClassFile.FieldType) 4 174 0 [.ref (ad 113), .ref (ad 1)] σ (zv) τ := by
  refine co_of (av := [.inr 113, .inr 1]) hl hI (by decide +kernel) (Nat.le_of_ble_eq_true rfl) [some (.inr 113), some (.inr 1), none, none] rfl (fun V C => ?_)
  have C : Rl l D ad cy RX7 cX7_explore 4 (Option.none : Option Jvm.ClassFile.FieldType) 4 174 0 (zv) τ V := C
  have L26 : ∀ (n : Nat) (σ : Mem) (l2 l3 : Int32), fX7_explore_L26  n σ l2 l3 = some τ → V 0 σ 26 [some (.inr 113), some (.inr 1), some (.inl l2), some (.inl l3)] [] := by
    intro n26
    induction n26 with
    | zero => intro σ l2 l3 h; exact no_e h
    | succ n26 ih26 =>
      intro σ l2 l3 h
      have h : fX7_explore_B26  (fX7_explore_L26  n26) σ l2 l3 = some τ := h
      refine r_iload_n C dX7_explore_26 rfl ?_
      refine r_iload_n C dX7_explore_27 rfl ?_
      refine r_ic_ge C (tgt := 47) h (by decide) dX7_explore_28 (fun hc h => ?_) (fun hc h => ?_)
      · refine r_aload_n C dX7_explore_47 rfl ?_
        refine r_iconst C ic_1 dX7_explore_48 ?_
        refine r_putI C ck_7 f_113_2 (by decide) fl_X7_18 rfl rfl rfl rfl rfl dX7_explore_49 h (fun σ15 h => ?_)
        exact r_vret C rfl (Nat.le_of_ble_eq_true rfl) dX7_explore_52 (re_v h)
      · refine r_aload_n C dX7_explore_31 rfl ?_
        refine r_aload_n C dX7_explore_32 rfl ?_
        refine bv_e h (fun σ16 hf16 h => ?_)
        refine r_callVv C g_X7_weigh hc_7 o_113 ml_X7_48 (mX7_weigh hl hI  hf16) rfl rfl (by exact Nat.le_of_ble_eq_true rfl) ⟨Nat.le_of_ble_eq_true rfl, Nat.le_of_ble_eq_true rfl, Nat.le_of_ble_eq_true rfl⟩ dX7_explore_33 ?_
        refine r_aload_n C dX7_explore_36 rfl ?_
        refine r_aload_n C dX7_explore_37 rfl ?_
        refine bv_e h (fun σ17 hf17 h => ?_)
        refine r_callVv C g_X7_advance hc_7 o_113 ml_X7_52 (mX7_advance hl hI  hf17) rfl rfl (by exact Nat.le_of_ble_eq_true rfl) ⟨Nat.le_of_ble_eq_true rfl, Nat.le_of_ble_eq_true rfl, Nat.le_of_ble_eq_true rfl⟩ dX7_explore_38 ?_
        refine r_iinc C ic_1 (by decide) dX7_explore_41 rfl ?_
        refine r_goto C (tgt := 26) (by decide) dX7_explore_44 ?_
        exact ih26 _ _ _ h
  refine r_aload_n C dX7_explore_0 rfl ?_
  refine r_getR C ck_7 f_113_0 (by decide) fl_X7_9 rfl dX7_explore_1 ?_
  refine r_iconst C ic_0 dX7_explore_4 ?_
  refine bv_e h (fun σ18 hf18 h => ?_)
  refine r_callSv C g_J7_fill_53178 ml_X7_35 (mJ7_fill_53178 hl hI i_114 hf18) rfl rfl (by exact Nat.le_of_ble_eq_true rfl) ⟨Nat.le_of_ble_eq_true rfl, Nat.le_of_ble_eq_true rfl, Nat.le_of_ble_eq_true rfl⟩ dX7_explore_5 ?_
  refine r_aload_n C dX7_explore_8 rfl ?_
  refine r_ldc C kc_X7_41 dX7_explore_9 ?_
  refine r_putI C ck_7 f_113_3 (by decide) fl_X7_22 rfl rfl rfl rfl rfl dX7_explore_11 h (fun σ19 h => ?_)
  refine r_aload_n C dX7_explore_14 rfl ?_
  refine r_iconst C ic_0 dX7_explore_15 ?_
  refine r_putI C ck_7 f_113_5 (by decide) fl_X7_29 rfl rfl rfl rfl rfl dX7_explore_16 h (fun σ20 h => ?_)
  refine r_aload_n C dX7_explore_19 rfl ?_
  refine bd_e h (fun v21 σ21 hf21 h => ?_)
  refine r_callVi C g_X4_combinations hc_4 o_1 ml_X7_42 (mX4_combinations hl hI  hf21) rfl rfl (by exact Nat.le_of_ble_eq_true rfl) ⟨Nat.le_of_ble_eq_true rfl, Nat.le_of_ble_eq_true rfl, Nat.le_of_ble_eq_true rfl⟩ dX7_explore_20 ?_
  refine r_istore_n C (by decide) dX7_explore_23 ?_
  refine r_iconst C ic_0 dX7_explore_24 ?_
  refine r_istore_n C (by decide) dX7_explore_25 ?_
  exact L26 FU _ _ _ h
