set_option maxHeartbeats 4000000 in
set_option maxRecDepth 100000 in
theorem mX4_removeAll {l : Launch} {D : va_G} {ad : Nat → Nat} {cy : Nat → ClassId} (hl : l.stackTraces = false) (hI : Inj ad)   {σ τ : Mem} (h : fX4_removeAll σ = some τ) : Co l D ad cy yX4_removeAll cX4_removeAll 1 (Option.none : Option Jvm.ClassFile.FieldType) 1 100 0 [.ref (ad 1)] σ (zv) τ := by
  refine co_of (av := [.inr 1]) hl hI (by decide +kernel) (Nat.le_of_ble_eq_true rfl) [some (.inr 1)] rfl (fun V C => ?_)
  have C : Rl l D ad cy RX4 cX4_removeAll 1 (Option.none : Option Jvm.ClassFile.FieldType) 1 100 0 (zv) τ V := C
  refine r_aload_n C dX4_removeAll_0 rfl ?_
  refine r_iconst C ic_0 dX4_removeAll_1 ?_
  refine r_putI C ck_4 f_1_7 (by decide) fl_X4_33 rfl rfl rfl rfl rfl dX4_removeAll_2 h (fun σ5 h => ?_)
  refine r_aload_n C dX4_removeAll_5 rfl ?_
  refine r_iconst C ic_0 dX4_removeAll_6 ?_
  refine r_putI C ck_4 f_1_8 (by decide) fl_X4_37 rfl rfl rfl rfl rfl dX4_removeAll_7 h (fun σ6 h => ?_)
  exact r_vret C rfl (Nat.le_of_ble_eq_true rfl) dX4_removeAll_10 (re_v h)
set_option maxHeartbeats 4000000 in
set_option maxRecDepth 100000 in
theorem mX1_forget {l : Launch} {D : va_G} {ad : Nat → Nat} {cy : Nat → ClassId} (hl : l.stackTraces = false) (hI : Inj ad)   {σ τ : Mem} (h : fX1_forget σ = some τ) : Co l D ad cy yX1_forget cX1_forget 1 (Option.none : Option Jvm.ClassFile.FieldType) 1 100 0 [.ref (ad 81)] σ (zv) τ := by
  refine co_of (av := [.inr 81]) hl hI (by decide +kernel) (Nat.le_of_ble_eq_true rfl) [some (.inr 81)] rfl (fun V C => ?_)
  have C : Rl l D ad cy RX1 cX1_forget 1 (Option.none : Option Jvm.ClassFile.FieldType) 1 100 0 (zv) τ V := C
  refine r_aload_n C dX1_forget_0 rfl ?_
  refine r_iconst C ic_0 dX1_forget_1 ?_
  refine r_putI C ck_1 f_81_2 (by decide) fl_X1_21 rfl rfl rfl rfl rfl dX1_forget_2 h (fun σ3 h => ?_)
  exact r_vret C rfl (Nat.le_of_ble_eq_true rfl) dX1_forget_5 (re_v h)
set_option maxHeartbeats 4000000 in
set_option maxRecDepth 100000 in
theorem mX5_reset {l : Launch} {D : va_G} {ad : Nat → Nat} {cy : Nat → ClassId} (hl : l.stackTraces = false) (hI : Inj ad)   {σ τ : Mem} (h : fX5_reset σ = some τ) : Co l D ad cy yX5_reset cX5_reset 1 (Option.none : Option Jvm.ClassFile.FieldType) 1 100 0 [.ref (ad 83)] σ (zv) τ := by
  refine co_of (av := [.inr 83]) hl hI (by decide +kernel) (Nat.le_of_ble_eq_true rfl) [some (.inr 83)] rfl (fun V C => ?_)
  have C : Rl l D ad cy RX5 cX5_reset 1 (Option.none : Option Jvm.ClassFile.FieldType) 1 100 0 (zv) τ V := C
  refine r_aload_n C dX5_reset_0 rfl ?_
  refine r_bipush C bp_15 dX5_reset_1 ?_
  refine r_putI C ck_5 f_83_0 (by decide) fl_X5_9 rfl rfl rfl rfl rfl dX5_reset_3 h (fun σ9 h => ?_)
  refine r_aload_n C dX5_reset_6 rfl ?_
  refine r_iconst C ic_3 dX5_reset_7 ?_
  refine r_putI C ck_5 f_83_1 (by decide) fl_X5_15 rfl rfl rfl rfl rfl dX5_reset_8 h (fun σ10 h => ?_)
  refine r_aload_n C dX5_reset_11 rfl ?_
  refine r_bipush C bp_20 dX5_reset_12 ?_
  refine r_putI C ck_5 f_83_2 (by decide) fl_X5_18 rfl rfl rfl rfl rfl dX5_reset_14 h (fun σ11 h => ?_)
  refine r_aload_n C dX5_reset_17 rfl ?_
  refine r_iconst C ic_1 dX5_reset_18 ?_
  refine r_putI C ck_5 f_83_3 (by decide) fl_X5_21 rfl rfl rfl rfl rfl dX5_reset_19 h (fun σ12 h => ?_)
  exact r_vret C rfl (Nat.le_of_ble_eq_true rfl) dX5_reset_22 (re_v h)
set_option maxHeartbeats 4000000 in
set_option maxRecDepth 100000 in
theorem mJ7_fill_53178 {l : Launch} {D : va_G} {ad : Nat → Nat} {cy : Nat → ClassId} (hl : l.stackTraces = false) (hI : Inj ad) {q0 nn0 : Nat} (hq0 : isI 0 nn0 q0) {σ τ : Mem} {a1 : Int32} (h : fJ7_fill_53178 q0 nn0 σ a1 = some τ) : Co l D ad cy yJ7_fill_53178 cJ7_fill_53178 4 (Option.none : Option Jvm.ClassFile.FieldType) 1 100 0 [.ref (ad q0), .int a1] σ (zv) τ := by
  refine co_of (av := [.inr q0, .inl a1]) hl hI (by decide +kernel) (Nat.le_of_ble_eq_true rfl) [some (.inr q0), some (.inl a1), none, none] rfl (fun V C => ?_)
  have C : Rl l D ad cy RJ7 cJ7_fill_53178 4 (Option.none : Option Jvm.ClassFile.FieldType) 1 100 0 (zv) τ V := C
  have L5 : ∀ (n : Nat) (σ : Mem) (l1 l2 l3 : Int32), fJ7_fill_53178_L5 q0 nn0 n σ l1 l2 l3 = some τ → V 0 σ 5 [some (.inr q0), some (.inl l1), some (.inl l2), some (.inl l3)] [] := by
    intro n5
    induction n5 with
    | zero => intro σ l1 l2 l3 h; exact no_e h
    | succ n5 ih5 =>
      intro σ l1 l2 l3 h
      have h : fJ7_fill_53178_B5 q0 nn0 (fJ7_fill_53178_L5 q0 nn0 n5) σ l1 l2 l3 = some τ := h
      refine r_iload_n C dJ7_fill_53178_5 rfl ?_
      refine r_iload_n C dJ7_fill_53178_6 rfl ?_
      refine r_ic_ge C (tgt := 20) h (by decide) dJ7_fill_53178_7 (fun hc h => ?_) (fun hc h => ?_)
      · exact r_vret C rfl (Nat.le_of_ble_eq_true rfl) dJ7_fill_53178_20 (re_v h)
      · refine r_aload_n C dJ7_fill_53178_10 rfl ?_
        refine r_iload_n C dJ7_fill_53178_11 rfl ?_
        refine r_iload_n C dJ7_fill_53178_12 rfl ?_
        obtain ⟨hi, h⟩ := ck_e h
        refine r_iast C hq0 hi dJ7_fill_53178_13 h (fun σ3 h => ?_)
        refine r_iinc C ic_1 (by decide) dJ7_fill_53178_14 rfl ?_
        refine r_goto C (tgt := 5) (by decide) dJ7_fill_53178_17 ?_
        exact ih5 _ _ _ _ h
  refine r_iconst C ic_0 dJ7_fill_53178_0 ?_
  refine r_istore_n C (by decide) dJ7_fill_53178_1 ?_
  refine r_aload_n C dJ7_fill_53178_2 rfl ?_
  refine r_alen C hq0 (by decide) rfl dJ7_fill_53178_3 ?_
  refine r_istore_n C (by decide) dJ7_fill_53178_4 ?_
  exact L5 FU _ _ _ _ h
set_option maxHeartbeats 4000000 in
set_option maxRecDepth 100000 in
theorem mX4_gather {l : Launch} {D : va_G} {ad : Nat → Nat} {cy : Nat → ClassId} (hl : l.stackTraces = false) (hI : Inj ad) {q2 : Nat} (hq2 : isI 0 10 q2) {σ τ : Mem} {a1 : Int32} {r : Int32} (h : fX4_gather q2 σ a1 = some (r, τ)) : Co l D ad cy yX4_gather cX4_gather 6 (Option.some Jvm.ClassFile.FieldType.int) 1 100 0 [.ref (ad 1), .int a1, .ref (ad q2)] σ (zi r) τ := by
  refine co_of (av := [.inr 1, .inl a1, .inr q2]) hl hI (by decide +kernel) (Nat.le_of_ble_eq_true rfl) [some (.inr 1), some (.inl a1), some (.inr q2), none, none, none] rfl (fun V C => ?_)
  have C : Rl l D ad cy RX4 cX4_gather 6 (Option.some Jvm.ClassFile.FieldType.int) 1 100 0 (zi r) τ V := C
  have L13 : ∀ (n : Nat) (σ : Mem) (l3 l4 l5 : Int32), fX4_gather_L13 q2 n σ l3 l4 l5 = some (r, τ) → V 0 σ 13 [some (.inr 1), none, some (.inr q2), some (.inl l3), some (.inl l4), some (.inl l5)] [] := by
    intro n13
    induction n13 with
    | zero => intro σ l3 l4 l5 h; exact no_e h
    | succ n13 ih13 =>
      have L45 : ∀ (σ : Mem) (l3 l4 l5 : Int32), fX4_gather_L45 q2 (fX4_gather_L13 q2 n13)  σ l3 l4 l5 = some (r, τ) → V 0 σ 45 [some (.inr 1), none, some (.inr q2), some (.inl l3), some (.inl l4), some (.inl l5)] [] := by
        intro  σ l3 l4 l5 h
        refine r_iinc C ic_1 (by decide) dX4_gather_45 rfl ?_
        refine r_goto C (tgt := 13) (by decide) dX4_gather_48 ?_
        exact ih13 _ _ _ _ h
      intro σ l3 l4 l5 h
      have h : fX4_gather_B13 q2 (fX4_gather_L13 q2 n13) σ l3 l4 l5 = some (r, τ) := h
      refine r_iload C dX4_gather_13 rfl ?_
      refine r_aload_n C dX4_gather_15 rfl ?_
      refine r_getI C ck_4 f_1_7 (by decide) fl_X4_33 rfl dX4_gather_16 ?_
      refine r_ic_ge C (tgt := 51) h (by decide) dX4_gather_19 (fun hc h => ?_) (fun hc h => ?_)
      · refine r_iload C dX4_gather_51 rfl ?_
        exact r_iret C rfl (Nat.le_of_ble_eq_true rfl) dX4_gather_53 (re_i h)
      · refine r_iload_n C dX4_gather_22 rfl ?_
        refine r_iload C dX4_gather_23 rfl ?_
        refine r_ishr C dX4_gather_25 ?_
        refine r_iconst C ic_1 dX4_gather_26 ?_
        refine r_iand C dX4_gather_27 ?_
        refine r_if_eq C (tgt := 45) h (by decide) dX4_gather_28 (fun hc h => ?_) (fun hc h => ?_)
        · exact L45 _ _ _ _ h
        · refine r_aload_n C dX4_gather_31 rfl ?_
          refine r_getR C ck_4 f_1_6 (by decide) fl_X4_30 rfl dX4_gather_32 ?_
          refine r_iload C dX4_gather_35 rfl ?_
          refine r_aload_n C dX4_gather_37 rfl ?_
          refine r_iload C dX4_gather_38 rfl ?_
          obtain ⟨hi, h⟩ := ck_e h
          refine r_iald C hq2 hi dX4_gather_40 ?_
          obtain ⟨hi, h⟩ := ck_e h
          refine r_iast C i_8 hi dX4_gather_41 h (fun σ3 h => ?_)
          refine r_iinc C ic_1 (by decide) dX4_gather_42 rfl ?_
          exact L45 _ _ _ _ h
  refine r_aload_n C dX4_gather_0 rfl ?_
  refine r_getR C ck_4 f_1_3 (by decide) fl_X4_21 rfl dX4_gather_1 ?_
  refine r_iload_n C dX4_gather_4 rfl ?_
  obtain ⟨hi, h⟩ := ck_e h
  refine r_iald C i_5 hi dX4_gather_5 ?_
  refine r_istore_n C (by decide) dX4_gather_6 ?_
  refine r_iconst C ic_0 dX4_gather_7 ?_
  refine r_istore C (by decide) dX4_gather_8 ?_
  refine r_iconst C ic_0 dX4_gather_10 ?_
  refine r_istore C (by decide) dX4_gather_11 ?_
  refine r_weak C [some (.inr 1), none, some (.inr q2), some (.inl (σ 5 a1.toNatClampNeg)), some (.inl (0 : Int32)), some (.inl (0 : Int32))] ⟨rfl, ⟨rfl, ⟨rfl, ⟨rfl, ⟨rfl, trivial⟩⟩⟩⟩⟩ ?_
  exact L13 FU _ _ _ _ h
set_option maxHeartbeats 4000000 in
set_option maxRecDepth 100000 in
theorem mX4_closePairs {l : Launch} {D : va_G} {ad : Nat → Nat} {cy : Nat → ClassId} (hl : l.stackTraces = false) (hI : Inj ad)   {σ τ : Mem} {a1 a2 : Int32} {r : Int32} (h : fX4_closePairs σ a1 a2 = some (r, τ)) : Co l D ad cy yX4_closePairs cX4_closePairs 6 (Option.some Jvm.ClassFile.FieldType.int) 1 100 0 [.ref (ad 1), .int a1, .int a2] σ (zi r) τ := by
  refine co_of (av := [.inr 1, .inl a1, .inl a2]) hl hI (by decide +kernel) (Nat.le_of_ble_eq_true rfl) [some (.inr 1), some (.inl a1), some (.inl a2), none, none, none] rfl (fun V C => ?_)
  have C : Rl l D ad cy RX4 cX4_closePairs 6 (Option.some Jvm.ClassFile.FieldType.int) 1 100 0 (zi r) τ V := C
  have L5 : ∀ (n : Nat) (σ : Mem) (l1 l2 l3 l4 : Int32), fX4_closePairs_L5  n σ l1 l2 l3 l4 = some (r, τ) → V 0 σ 5 [some (.inr 1), some (.inl l1), some (.inl l2), some (.inl l3), some (.inl l4), none] [] := by
    intro n5
    induction n5 with
    | zero => intro σ l1 l2 l3 l4 h; exact no_e h
    | succ n5 ih5 =>
      have L14 : ∀ (n : Nat) (σ : Mem) (l1 l2 l3 l4 l5 : Int32), fX4_closePairs_L14 (fX4_closePairs_L5  n5) n σ l1 l2 l3 l4 l5 = some (r, τ) → V 0 σ 14 [some (.inr 1), some (.inl l1), some (.inl l2), some (.inl l3), some (.inl l4), some (.inl l5)] [] := by
        intro n14
        induction n14 with
        | zero => intro σ l1 l2 l3 l4 l5 h; exact no_e h
        | succ n14 ih14 =>
          have L46 : ∀ (σ : Mem) (l1 l2 l3 l4 l5 : Int32), fX4_closePairs_L46 (fX4_closePairs_L5  n5) (fX4_closePairs_L14 (fX4_closePairs_L5  n5) n14)  σ l1 l2 l3 l4 l5 = some (r, τ) → V 0 σ 46 [some (.inr 1), some (.inl l1), some (.inl l2), some (.inl l3), some (.inl l4), some (.inl l5)] [] := by
            intro  σ l1 l2 l3 l4 l5 h
            refine r_iinc C ic_1 (by decide) dX4_closePairs_46 rfl ?_
            refine r_goto C (tgt := 14) (by decide) dX4_closePairs_49 ?_
            exact ih14 _ _ _ _ _ _ h
          intro σ l1 l2 l3 l4 l5 h
          have h : fX4_closePairs_B14 (fX4_closePairs_L5  n5) (fX4_closePairs_L14 (fX4_closePairs_L5  n5) n14) σ l1 l2 l3 l4 l5 = some (r, τ) := h
          refine r_iload C dX4_closePairs_14 rfl ?_
          refine r_iload C dX4_closePairs_16 rfl ?_
          refine r_ic_ge C (tgt := 52) h (by decide) dX4_closePairs_18 (fun hc h => ?_) (fun hc h => ?_)
          · refine r_iinc C ic_1 (by decide) dX4_closePairs_52 rfl ?_
            refine r_goto C (tgt := 5) (by decide) dX4_closePairs_55 ?_
            refine r_weak C [some (.inr 1), some (.inl l1), some (.inl l2), some (.inl l3), some (.inl (l4 + (1 : Int32))), none] ⟨rfl, ⟨rfl, ⟨rfl, ⟨rfl, ⟨rfl, trivial⟩⟩⟩⟩⟩ ?_
            exact ih5 _ _ _ _ _ h
          · refine r_aload_n C dX4_closePairs_21 rfl ?_
            refine r_getR C ck_4 f_1_6 (by decide) fl_X4_30 rfl dX4_closePairs_22 ?_
            refine r_iload C dX4_closePairs_25 rfl ?_
            obtain ⟨hi, h⟩ := ck_e h
            refine r_iald C i_8 hi dX4_closePairs_27 ?_
            refine r_aload_n C dX4_closePairs_28 rfl ?_
            refine r_getR C ck_4 f_1_6 (by decide) fl_X4_30 rfl dX4_closePairs_29 ?_
            refine r_iload C dX4_closePairs_32 rfl ?_
            obtain ⟨hi, h⟩ := ck_e h
            refine r_iald C i_8 hi dX4_closePairs_34 ?_
            refine r_isub C dX4_closePairs_35 ?_
            refine r_mabs C ml_X4_74 gm_abs (by decide) (by exact Nat.le_of_ble_eq_true rfl) (by decide) dX4_closePairs_36 ?_
            refine r_iload_n C dX4_closePairs_39 rfl ?_
            refine r_ic_ge C (tgt := 46) h (by decide) dX4_closePairs_40 (fun hc h => ?_) (fun hc h => ?_)
            · exact L46 _ _ _ _ _ _ h
            · refine r_iinc C ic_1 (by decide) dX4_closePairs_43 rfl ?_
              exact L46 _ _ _ _ _ _ h
      intro σ l1 l2 l3 l4 h
      have h : fX4_closePairs_B5  (fX4_closePairs_L5  n5) σ l1 l2 l3 l4 = some (r, τ) := h
      refine r_iload C dX4_closePairs_5 rfl ?_
      refine r_iload_n C dX4_closePairs_7 rfl ?_
      refine r_ic_ge C (tgt := 58) h (by decide) dX4_closePairs_8 (fun hc h => ?_) (fun hc h => ?_)
      · refine r_iload_n C dX4_closePairs_58 rfl ?_
        exact r_iret C rfl (Nat.le_of_ble_eq_true rfl) dX4_closePairs_59 (re_i h)
      · refine r_iconst C ic_0 dX4_closePairs_11 ?_
        refine r_istore C (by decide) dX4_closePairs_12 ?_
        exact L14 FU _ _ _ _ _ _ h
  refine r_iconst C ic_0 dX4_closePairs_0 ?_
  refine r_istore_n C (by decide) dX4_closePairs_1 ?_
  refine r_iconst C ic_1 dX4_closePairs_2 ?_
  refine r_istore C (by decide) dX4_closePairs_3 ?_
  exact L5 FU _ _ _ _ _ h
set_option maxHeartbeats 4000000 in
set_option maxRecDepth 100000 in
theorem mX4_sum {l : Launch} {D : va_G} {ad : Nat → Nat} {cy : Nat → ClassId} (hl : l.stackTraces = false) (hI : Inj ad)   {σ τ : Mem} {a1 : Int32} {r : Int32} (h : fX4_sum σ a1 = some (r, τ)) : Co l D ad cy yX4_sum cX4_sum 4 (Option.some Jvm.ClassFile.FieldType.int) 1 100 0 [.ref (ad 1), .int a1] σ (zi r) τ := by
  refine co_of (av := [.inr 1, .inl a1]) hl hI (by decide +kernel) (Nat.le_of_ble_eq_true rfl) [some (.inr 1), some (.inl a1), none, none] rfl (fun V C => ?_)
  have C : Rl l D ad cy RX4 cX4_sum 4 (Option.some Jvm.ClassFile.FieldType.int) 1 100 0 (zi r) τ V := C
  have L4 : ∀ (n : Nat) (σ : Mem) (l1 l2 l3 : Int32), fX4_sum_L4  n σ l1 l2 l3 = some (r, τ) → V 0 σ 4 [some (.inr 1), some (.inl l1), some (.inl l2), some (.inl l3)] [] := by
    intro n4
    induction n4 with
    | zero => intro σ l1 l2 l3 h; exact no_e h
    | succ n4 ih4 =>
      intro σ l1 l2 l3 h
      have h : fX4_sum_B4  (fX4_sum_L4  n4) σ l1 l2 l3 = some (r, τ) := h
      refine r_iload_n C dX4_sum_4 rfl ?_
      refine r_iload_n C dX4_sum_5 rfl ?_
      refine r_ic_ge C (tgt := 24) h (by decide) dX4_sum_6 (fun hc h => ?_) (fun hc h => ?_)
      · refine r_iload_n C dX4_sum_24 rfl ?_
        exact r_iret C rfl (Nat.le_of_ble_eq_true rfl) dX4_sum_25 (re_i h)
      · refine r_iload_n C dX4_sum_9 rfl ?_
        refine r_aload_n C dX4_sum_10 rfl ?_
        refine r_getR C ck_4 f_1_6 (by decide) fl_X4_30 rfl dX4_sum_11 ?_
        refine r_iload_n C dX4_sum_14 rfl ?_
        obtain ⟨hi, h⟩ := ck_e h
        refine r_iald C i_8 hi dX4_sum_15 ?_
        refine r_iadd C dX4_sum_16 ?_
        refine r_istoreL_n C h (by decide) dX4_sum_17 (fun x3 h => ?_)
        refine r_iinc C ic_1 (by decide) dX4_sum_18 rfl ?_
        refine r_goto C (tgt := 4) (by decide) dX4_sum_21 ?_
        exact ih4 _ _ _ _ h
  refine r_iconst C ic_0 dX4_sum_0 ?_
  refine r_istore_n C (by decide) dX4_sum_1 ?_
  refine r_iconst C ic_0 dX4_sum_2 ?_
  refine r_istore_n C (by decide) dX4_sum_3 ?_
  exact L4 FU _ _ _ _ h
set_option maxHeartbeats 4000000 in
set_option maxRecDepth 100000 in
theorem mX4_descents {l : Launch} {D : va_G} {ad : Nat → Nat} {cy : Nat → ClassId} (hl : l.stackTraces = false) (hI : Inj ad)   {σ τ : Mem} {a1 a2 : Int32} {r : Int32} (h : fX4_descents σ a1 a2 = some (r, τ)) : Co l D ad cy yX4_descents cX4_descents 5 (Option.some Jvm.ClassFile.FieldType.int) 1 100 0 [.ref (ad 1), .int a1, .int a2] σ (zi r) τ := by
  refine co_of (av := [.inr 1, .inl a1, .inl a2]) hl hI (by decide +kernel) (Nat.le_of_ble_eq_true rfl) [some (.inr 1), some (.inl a1), some (.inl a2), none, none] rfl (fun V C => ?_)
  have C : Rl l D ad cy RX4 cX4_descents 5 (Option.some Jvm.ClassFile.FieldType.int) 1 100 0 (zi r) τ V := C
  have L5 : ∀ (n : Nat) (σ : Mem) (l1 l2 l3 l4 : Int32), fX4_descents_L5  n σ l1 l2 l3 l4 = some (r, τ) → V 0 σ 5 [some (.inr 1), some (.inl l1), some (.inl l2), some (.inl l3), some (.inl l4)] [] := by
    intro n5
    induction n5 with
    | zero => intro σ l1 l2 l3 l4 h; exact no_e h
    | succ n5 ih5 =>
      have L35 : ∀ (σ : Mem) (l1 l2 l3 l4 : Int32), fX4_descents_L35 (fX4_descents_L5  n5)  σ l1 l2 l3 l4 = some (r, τ) → V 0 σ 35 [some (.inr 1), some (.inl l1), some (.inl l2), some (.inl l3), some (.inl l4)] [] := by
        intro  σ l1 l2 l3 l4 h
        refine r_iinc C ic_1 (by decide) dX4_descents_35 rfl ?_
        refine r_goto C (tgt := 5) (by decide) dX4_descents_38 ?_
        exact ih5 _ _ _ _ _ h
      intro σ l1 l2 l3 l4 h
      have h : fX4_descents_B5  (fX4_descents_L5  n5) σ l1 l2 l3 l4 = some (r, τ) := h
      refine r_iload C dX4_descents_5 rfl ?_
      refine r_iload_n C dX4_descents_7 rfl ?_
      refine r_ic_ge C (tgt := 41) h (by decide) dX4_descents_8 (fun hc h => ?_) (fun hc h => ?_)
      · refine r_iload_n C dX4_descents_41 rfl ?_
        exact r_iret C rfl (Nat.le_of_ble_eq_true rfl) dX4_descents_42 (re_i h)
      · refine r_aload_n C dX4_descents_11 rfl ?_
        refine r_getR C ck_4 f_1_6 (by decide) fl_X4_30 rfl dX4_descents_12 ?_
        refine r_iload C dX4_descents_15 rfl ?_
        obtain ⟨hi, h⟩ := ck_e h
        refine r_iald C i_8 hi dX4_descents_17 ?_
        refine r_iload_n C dX4_descents_18 rfl ?_
        refine r_aload_n C dX4_descents_19 rfl ?_
        refine r_getR C ck_4 f_1_6 (by decide) fl_X4_30 rfl dX4_descents_20 ?_
        refine r_iload C dX4_descents_23 rfl ?_
        refine r_iconst C ic_1 dX4_descents_25 ?_
        refine r_isub C dX4_descents_26 ?_
        obtain ⟨hi, h⟩ := ck_e h
        refine r_iald C i_8 hi dX4_descents_27 ?_
        refine r_iadd C dX4_descents_28 ?_
        refine r_ic_ge C (tgt := 35) h (by decide) dX4_descents_29 (fun hc h => ?_) (fun hc h => ?_)
        · exact L35 _ _ _ _ _ h
        · refine r_iinc C ic_1 (by decide) dX4_descents_32 rfl ?_
          exact L35 _ _ _ _ _ h
  refine r_iconst C ic_0 dX4_descents_0 ?_
  refine r_istore_n C (by decide) dX4_descents_1 ?_
  refine r_iconst C ic_1 dX4_descents_2 ?_
  refine r_istore C (by decide) dX4_descents_3 ?_
  exact L5 FU _ _ _ _ _ h
set_option maxHeartbeats 4000000 in
set_option maxRecDepth 100000 in
theorem mX4_zeros {l : Launch} {D : va_G} {ad : Nat → Nat} {cy : Nat → ClassId} (hl : l.stackTraces = false) (hI : Inj ad)   {σ τ : Mem} {a1 : Int32} {r : Int32} (h : fX4_zeros σ a1 = some (r, τ)) : Co l D ad cy yX4_zeros cX4_zeros 4 (Option.some Jvm.ClassFile.FieldType.int) 1 100 0 [.ref (ad 1), .int a1] σ (zi r) τ := by
  refine co_of (av := [.inr 1, .inl a1]) hl hI (by decide +kernel) (Nat.le_of_ble_eq_true rfl) [some (.inr 1), some (.inl a1), none, none] rfl (fun V C => ?_)
  have C : Rl l D ad cy RX4 cX4_zeros 4 (Option.some Jvm.ClassFile.FieldType.int) 1 100 0 (zi r) τ V := C
  have L4 : ∀ (n : Nat) (σ : Mem) (l1 l2 l3 : Int32), fX4_zeros_L4  n σ l1 l2 l3 = some (r, τ) → V 0 σ 4 [some (.inr 1), some (.inl l1), some (.inl l2), some (.inl l3)] [] := by
    intro n4
    induction n4 with
    | zero => intro σ l1 l2 l3 h; exact no_e h
    | succ n4 ih4 =>
      have L21 : ∀ (σ : Mem) (l1 l2 l3 : Int32), fX4_zeros_L21 (fX4_zeros_L4  n4)  σ l1 l2 l3 = some (r, τ) → V 0 σ 21 [some (.inr 1), some (.inl l1), some (.inl l2), some (.inl l3)] [] := by
        intro  σ l1 l2 l3 h
        refine r_iinc C ic_1 (by decide) dX4_zeros_21 rfl ?_
        refine r_goto C (tgt := 4) (by decide) dX4_zeros_24 ?_
        exact ih4 _ _ _ _ h
      intro σ l1 l2 l3 h
      have h : fX4_zeros_B4  (fX4_zeros_L4  n4) σ l1 l2 l3 = some (r, τ) := h
      refine r_iload_n C dX4_zeros_4 rfl ?_
      refine r_iload_n C dX4_zeros_5 rfl ?_
      refine r_ic_ge C (tgt := 27) h (by decide) dX4_zeros_6 (fun hc h => ?_) (fun hc h => ?_)
      · refine r_iload_n C dX4_zeros_27 rfl ?_
        exact r_iret C rfl (Nat.le_of_ble_eq_true rfl) dX4_zeros_28 (re_i h)
      · refine r_aload_n C dX4_zeros_9 rfl ?_
        refine r_getR C ck_4 f_1_6 (by decide) fl_X4_30 rfl dX4_zeros_10 ?_
        refine r_iload_n C dX4_zeros_13 rfl ?_
        obtain ⟨hi, h⟩ := ck_e h
        refine r_iald C i_8 hi dX4_zeros_14 ?_
        refine r_if_ne C (tgt := 21) h (by decide) dX4_zeros_15 (fun hc h => ?_) (fun hc h => ?_)
        · exact L21 _ _ _ _ h
        · refine r_iinc C ic_1 (by decide) dX4_zeros_18 rfl ?_
          exact L21 _ _ _ _ h
  refine r_iconst C ic_0 dX4_zeros_0 ?_
  refine r_istore_n C (by decide) dX4_zeros_1 ?_
  refine r_iconst C ic_0 dX4_zeros_2 ?_
  refine r_istore_n C (by decide) dX4_zeros_3 ?_
  exact L4 FU _ _ _ _ h
set_option maxHeartbeats 4000000 in
set_option maxRecDepth 100000 in
theorem mX4_violationIn {l : Launch} {D : va_G} {ad : Nat → Nat} {cy : Nat → ClassId} (hl : l.stackTraces = false) (hI : Inj ad) {q2 : Nat} (hq2 : isI 0 10 q2) {σ τ : Mem} {a1 : Int32} {r : Int32} (h : fX4_violationIn q2 σ a1 = some (r, τ)) : Co l D ad cy yX4_violationIn cX4_violationIn 5 (Option.some Jvm.ClassFile.FieldType.int) 2 125 0 [.ref (ad 1), .int a1, .ref (ad q2)] σ (zi r) τ := by
  refine co_of (av := [.inr 1, .inl a1, .inr q2]) hl hI (by decide +kernel) (Nat.le_of_ble_eq_true rfl) [some (.inr 1), some (.inl a1), some (.inr q2), none, none] rfl (fun V C => ?_)
  have C : Rl l D ad cy RX4 cX4_violationIn 5 (Option.some Jvm.ClassFile.FieldType.int) 2 125 0 (zi r) τ V := C
  refine r_aload_n C dX4_violationIn_0 rfl ?_
  refine r_iload_n C dX4_violationIn_1 rfl ?_
  refine r_aload_n C dX4_violationIn_2 rfl ?_
  refine bd_e h (fun v15 σ15 hf15 h => ?_)
  refine r_callVi C g_X4_gather hc_4 o_1 ml_X4_58 (mX4_gather hl hI hq2 hf15) rfl rfl (by exact Nat.le_of_ble_eq_true rfl) ⟨Nat.le_of_ble_eq_true rfl, Nat.le_of_ble_eq_true rfl, Nat.le_of_ble_eq_true rfl⟩ dX4_violationIn_3 ?_
  refine r_istore_n C (by decide) dX4_violationIn_6 ?_
  refine r_aload_n C dX4_violationIn_7 rfl ?_
  refine r_getR C ck_4 f_1_4 (by decide) fl_X4_24 rfl dX4_violationIn_8 ?_
  refine r_iload_n C dX4_violationIn_11 rfl ?_
  obtain ⟨hi, h⟩ := ck_e h
  refine r_iald C i_6 hi dX4_violationIn_12 ?_
  refine r_istore C (by decide) dX4_violationIn_13 ?_
  refine r_aload_n C dX4_violationIn_15 rfl ?_
  refine r_getR C ck_4 f_1_2 (by decide) fl_X4_18 rfl dX4_violationIn_16 ?_
  refine r_iload_n C dX4_violationIn_19 rfl ?_
  obtain ⟨hi, h⟩ := ck_e h
  refine r_iald C i_4 hi dX4_violationIn_20 ?_
  refine sw_e h (fun he0 h => ?_) (fun he0 h => ?_)
  · refine r_tinE C 39 (tgt := 60) dX4_violationIn_21 he0 ⟨by decide, by decide⟩ (by decide) (by decide) ?_
    refine r_aload_n C dX4_violationIn_60 rfl ?_
    refine r_iload_n C dX4_violationIn_61 rfl ?_
    refine r_iconst C ic_1 dX4_violationIn_62 ?_
    refine bd_e h (fun v16 σ16 hf16 h => ?_)
    refine r_callVi C g_X4_closePairs hc_4 o_1 ml_X4_61 (mX4_closePairs hl hI  hf16) rfl rfl (by exact Nat.le_of_ble_eq_true rfl) ⟨Nat.le_of_ble_eq_true rfl, Nat.le_of_ble_eq_true rfl, Nat.le_of_ble_eq_true rfl⟩ dX4_violationIn_63 ?_
    exact r_iret C rfl (Nat.le_of_ble_eq_true rfl) dX4_violationIn_66 (re_i h)
  · refine sw_e h (fun he1 h => ?_) (fun he1 h => ?_)
    · refine r_tinE C 46 (tgt := 67) dX4_violationIn_21 he1 ⟨by decide, by decide⟩ (by decide) (by decide) ?_
      refine r_iconst C ic_0 dX4_violationIn_67 ?_
      refine r_aload_n C dX4_violationIn_68 rfl ?_
      refine r_iload_n C dX4_violationIn_69 rfl ?_
      refine bd_e h (fun v17 σ17 hf17 h => ?_)
      refine r_callVi C g_X4_sum hc_4 o_1 ml_X4_65 (mX4_sum hl hI  hf17) rfl rfl (by exact Nat.le_of_ble_eq_true rfl) ⟨Nat.le_of_ble_eq_true rfl, Nat.le_of_ble_eq_true rfl, Nat.le_of_ble_eq_true rfl⟩ dX4_violationIn_70 ?_
      refine r_iload C dX4_violationIn_73 rfl ?_
      refine r_isub C dX4_violationIn_75 ?_
      refine r_mmax C ml_X4_69 gm_max (by decide) (by exact Nat.le_of_ble_eq_true rfl) (by decide) dX4_violationIn_76 ?_
      exact r_iret C rfl (Nat.le_of_ble_eq_true rfl) dX4_violationIn_79 (re_i h)
    · refine sw_e h (fun he2 h => ?_) (fun he2 h => ?_)
      · refine r_tinE C 59 (tgt := 80) dX4_violationIn_21 he2 ⟨by decide, by decide⟩ (by decide) (by decide) ?_
        refine r_aload_n C dX4_violationIn_80 rfl ?_
        refine r_iload_n C dX4_violationIn_81 rfl ?_
        refine bd_e h (fun v18 σ18 hf18 h => ?_)
        refine r_callVi C g_X4_sum hc_4 o_1 ml_X4_65 (mX4_sum hl hI  hf18) rfl rfl (by exact Nat.le_of_ble_eq_true rfl) ⟨Nat.le_of_ble_eq_true rfl, Nat.le_of_ble_eq_true rfl, Nat.le_of_ble_eq_true rfl⟩ dX4_violationIn_82 ?_
        refine r_iload C dX4_violationIn_85 rfl ?_
        refine r_isub C dX4_violationIn_87 ?_
        refine r_mabs C ml_X4_74 gm_abs (by decide) (by exact Nat.le_of_ble_eq_true rfl) (by decide) dX4_violationIn_88 ?_
        exact r_iret C rfl (Nat.le_of_ble_eq_true rfl) dX4_violationIn_91 (re_i h)
      · refine sw_e h (fun he3 h => ?_) (fun he3 h => ?_)
        · refine r_tinE C 71 (tgt := 92) dX4_violationIn_21 he3 ⟨by decide, by decide⟩ (by decide) (by decide) ?_
          refine r_aload_n C dX4_violationIn_92 rfl ?_
          refine r_iload_n C dX4_violationIn_93 rfl ?_
          refine r_iload C dX4_violationIn_94 rfl ?_
          refine bd_e h (fun v19 σ19 hf19 h => ?_)
          refine r_callVi C g_X4_descents hc_4 o_1 ml_X4_77 (mX4_descents hl hI  hf19) rfl rfl (by exact Nat.le_of_ble_eq_true rfl) ⟨Nat.le_of_ble_eq_true rfl, Nat.le_of_ble_eq_true rfl, Nat.le_of_ble_eq_true rfl⟩ dX4_violationIn_96 ?_
          exact r_iret C rfl (Nat.le_of_ble_eq_true rfl) dX4_violationIn_99 (re_i h)
        · refine sw_e h (fun he4 h => ?_) (fun he4 h => ?_)
          · refine r_tinE C 79 (tgt := 100) dX4_violationIn_21 he4 ⟨by decide, by decide⟩ (by decide) (by decide) ?_
            refine r_aload_n C dX4_violationIn_100 rfl ?_
            refine r_iload_n C dX4_violationIn_101 rfl ?_
            refine bd_e h (fun v20 σ20 hf20 h => ?_)
            refine r_callVi C g_X4_zeros hc_4 o_1 ml_X4_80 (mX4_zeros hl hI  hf20) rfl rfl (by exact Nat.le_of_ble_eq_true rfl) ⟨Nat.le_of_ble_eq_true rfl, Nat.le_of_ble_eq_true rfl, Nat.le_of_ble_eq_true rfl⟩ dX4_violationIn_102 ?_
            refine r_iload C dX4_violationIn_105 rfl ?_
            refine r_isub C dX4_violationIn_107 ?_
            refine r_mabs C ml_X4_74 gm_abs (by decide) (by exact Nat.le_of_ble_eq_true rfl) (by decide) dX4_violationIn_108 ?_
            exact r_iret C rfl (Nat.le_of_ble_eq_true rfl) dX4_violationIn_111 (re_i h)
          · refine sw_e h (fun he5 h => ?_) (fun he5 h => ?_)
            · refine r_tinE C 91 (tgt := 112) dX4_violationIn_21 he5 ⟨by decide, by decide⟩ (by decide) (by decide) ?_
              refine r_aload_n C dX4_violationIn_112 rfl ?_
              refine r_iload_n C dX4_violationIn_113 rfl ?_
              refine r_iload C dX4_violationIn_114 rfl ?_
              refine bd_e h (fun v21 σ21 hf21 h => ?_)
              refine r_callVi C g_X4_closePairs hc_4 o_1 ml_X4_61 (mX4_closePairs hl hI  hf21) rfl rfl (by exact Nat.le_of_ble_eq_true rfl) ⟨Nat.le_of_ble_eq_true rfl, Nat.le_of_ble_eq_true rfl, Nat.le_of_ble_eq_true rfl⟩ dX4_violationIn_116 ?_
              exact r_iret C rfl (Nat.le_of_ble_eq_true rfl) dX4_violationIn_119 (re_i h)
            · refine r_tout C (tgt := 120) dX4_violationIn_21 (tout 5 (by decide) (fun j hj => match j, hj with | 0, _ => he0 | 1, _ => he1 | 2, _ => he2 | 3, _ => he3 | 4, _ => he4 | 5, _ => he5)) (by decide) ?_
              refine r_iconst C ic_0 dX4_violationIn_120 ?_
              exact r_iret C rfl (Nat.le_of_ble_eq_true rfl) dX4_violationIn_121 (re_i h)
set_option maxHeartbeats 4000000 in
set_option maxRecDepth 100000 in
theorem mX4_costIn {l : Launch} {D : va_G} {ad : Nat → Nat} {cy : Nat → ClassId} (hl : l.stackTraces = false) (hI : Inj ad) {q1 : Nat} (hq1 : isI 0 10 q1) {σ τ : Mem} {r : Int32} (h : fX4_costIn q1 σ = some (r, τ)) : Co l D ad cy yX4_costIn cX4_costIn 4 (Option.some Jvm.ClassFile.FieldType.int) 3 149 0 [.ref (ad 1), .ref (ad q1)] σ (zi r) τ := by
  refine co_of (av := [.inr 1, .inr q1]) hl hI (by decide +kernel) (Nat.le_of_ble_eq_true rfl) [some (.inr 1), some (.inr q1), none, none] rfl (fun V C => ?_)
  have C : Rl l D ad cy RX4 cX4_costIn 4 (Option.some Jvm.ClassFile.FieldType.int) 3 149 0 (zi r) τ V := C
  have L4 : ∀ (n : Nat) (σ : Mem) (l2 l3 : Int32), fX4_costIn_L4 q1 n σ l2 l3 = some (r, τ) → V 0 σ 4 [some (.inr 1), some (.inr q1), some (.inl l2), some (.inl l3)] [] := by
    intro n4
    induction n4 with
    | zero => intro σ l2 l3 h; exact no_e h
    | succ n4 ih4 =>
      intro σ l2 l3 h
      have h : fX4_costIn_B4 q1 (fX4_costIn_L4 q1 n4) σ l2 l3 = some (r, τ) := h
      refine r_iload_n C dX4_costIn_4 rfl ?_
      refine r_aload_n C dX4_costIn_5 rfl ?_
      refine r_getI C ck_4 f_1_8 (by decide) fl_X4_37 rfl dX4_costIn_6 ?_
      refine r_ic_ge C (tgt := 34) h (by decide) dX4_costIn_9 (fun hc h => ?_) (fun hc h => ?_)
      · refine r_iload_n C dX4_costIn_34 rfl ?_
        exact r_iret C rfl (Nat.le_of_ble_eq_true rfl) dX4_costIn_35 (re_i h)
      · refine r_iload_n C dX4_costIn_12 rfl ?_
        refine r_aload_n C dX4_costIn_13 rfl ?_
        refine r_getR C ck_4 f_1_5 (by decide) fl_X4_27 rfl dX4_costIn_14 ?_
        refine r_iload_n C dX4_costIn_17 rfl ?_
        obtain ⟨hi, h⟩ := ck_e h
        refine r_iald C i_7 hi dX4_costIn_18 ?_
        refine r_aload_n C dX4_costIn_19 rfl ?_
        refine r_iload_n C dX4_costIn_20 rfl ?_
        refine r_aload_n C dX4_costIn_21 rfl ?_
        refine bd_e h (fun v5 σ5 hf5 h => ?_)
        refine r_callVi C g_X4_violationIn hc_4 o_1 ml_X4_50 (mX4_violationIn hl hI hq1 hf5) rfl rfl (by exact Nat.le_of_ble_eq_true rfl) ⟨Nat.le_of_ble_eq_true rfl, Nat.le_of_ble_eq_true rfl, Nat.le_of_ble_eq_true rfl⟩ dX4_costIn_22 ?_
        refine r_imul C dX4_costIn_25 ?_
        refine r_iadd C dX4_costIn_26 ?_
        refine r_istoreL_n C h (by decide) dX4_costIn_27 (fun x6 h => ?_)
        refine r_iinc C ic_1 (by decide) dX4_costIn_28 rfl ?_
        refine r_goto C (tgt := 4) (by decide) dX4_costIn_31 ?_
        exact ih4 _ _ _ h
  refine r_iconst C ic_0 dX4_costIn_0 ?_
  refine r_istore_n C (by decide) dX4_costIn_1 ?_
  refine r_iconst C ic_0 dX4_costIn_2 ?_
  refine r_istore_n C (by decide) dX4_costIn_3 ?_
  exact L4 FU _ _ _ h
set_option maxHeartbeats 4000000 in
set_option maxRecDepth 100000 in
theorem mX4_presentCost {l : Launch} {D : va_G} {ad : Nat → Nat} {cy : Nat → ClassId} (hl : l.stackTraces = false) (hI : Inj ad)   {σ τ : Mem} {r : Int32} (h : fX4_presentCost σ = some (r, τ)) : Co l D ad cy yX4_presentCost cX4_presentCost 1 (Option.some Jvm.ClassFile.FieldType.int) 4 172 0 [.ref (ad 1)] σ (zi r) τ := by
  refine co_of (av := [.inr 1]) hl hI (by decide +kernel) (Nat.le_of_ble_eq_true rfl) [some (.inr 1)] rfl (fun V C => ?_)
  have C : Rl l D ad cy RX4 cX4_presentCost 1 (Option.some Jvm.ClassFile.FieldType.int) 4 172 0 (zi r) τ V := C
  refine r_aload_n C dX4_presentCost_0 rfl ?_
  refine r_aload_n C dX4_presentCost_1 rfl ?_
  refine r_getR C ck_4 f_1_1 (by decide) fl_X4_15 rfl dX4_presentCost_2 ?_
  refine bd_e h (fun v3 σ3 hf3 h => ?_)
  refine r_callVi C g_X4_costIn hc_4 o_1 ml_X4_46 (mX4_costIn hl hI i_3 hf3) rfl rfl (by exact Nat.le_of_ble_eq_true rfl) ⟨Nat.le_of_ble_eq_true rfl, Nat.le_of_ble_eq_true rfl, Nat.le_of_ble_eq_true rfl⟩ dX4_presentCost_5 ?_
  exact r_iret C rfl (Nat.le_of_ble_eq_true rfl) dX4_presentCost_8 (re_i h)
set_option maxHeartbeats 4000000 in
set_option maxRecDepth 100000 in
theorem mX4_copyFrom {l : Launch} {D : va_G} {ad : Nat → Nat} {cy : Nat → ClassId} (hl : l.stackTraces = false) (hI : Inj ad) {b : Nat} {o1 : Nat} (hb : isP b) (ho1 : isP o1) {σ τ : Mem} (h : fX4_copyFrom b o1 σ = some τ) : Co l D ad cy yX4_copyFrom cX4_copyFrom 2 (Option.none : Option Jvm.ClassFile.FieldType) 1 100 0 [.ref (ad b), .ref (ad o1)] σ (zv) τ := by
  refine co_of (av := [.inr b, .inr o1]) hl hI (by decide +kernel) (Nat.le_of_ble_eq_true rfl) [some (.inr b), some (.inr o1)] rfl (fun V C => ?_)
  have C : Rl l D ad cy RX4 cX4_copyFrom 2 (Option.none : Option Jvm.ClassFile.FieldType) 1 100 0 (zv) τ V := C
  refine r_aload_n C dX4_copyFrom_0 rfl ?_
  refine r_aload_n C dX4_copyFrom_1 rfl ?_
  refine r_getI C ck_4 (fP_7 ho1) (by decide) fl_X4_33 rfl dX4_copyFrom_2 ?_
  refine r_putI C ck_4 (fP_7 hb) (by decide) fl_X4_33 rfl rfl rfl rfl rfl dX4_copyFrom_5 h (fun σ17 h => ?_)
  refine r_aload_n C dX4_copyFrom_8 rfl ?_
  refine r_aload_n C dX4_copyFrom_9 rfl ?_
  refine r_getI C ck_4 (fP_8 ho1) (by decide) fl_X4_37 rfl dX4_copyFrom_10 ?_
  refine r_putI C ck_4 (fP_8 hb) (by decide) fl_X4_37 rfl rfl rfl rfl rfl dX4_copyFrom_13 h (fun σ18 h => ?_)
  refine r_aload_n C dX4_copyFrom_16 rfl ?_
  refine r_getR C ck_4 (fP_0 ho1) (by decide) fl_X4_9 rfl dX4_copyFrom_17 ?_
  refine r_iconst C ic_0 dX4_copyFrom_20 ?_
  refine r_aload_n C dX4_copyFrom_21 rfl ?_
  refine r_getR C ck_4 (fP_0 hb) (by decide) fl_X4_9 rfl dX4_copyFrom_22 ?_
  refine r_iconst C ic_0 dX4_copyFrom_25 ?_
  refine r_bipush C bp_10 dX4_copyFrom_26 ?_
  obtain ⟨hi, h⟩ := ckc_e h
  refine r_copy C (iP_0 ho1) (iP_0 hb) hi ml_X4_40 gm_arraycopy (by decide) (by exact Nat.le_of_ble_eq_true rfl) dX4_copyFrom_28 h (fun σ19 h => ?_)
  refine r_aload_n C dX4_copyFrom_31 rfl ?_
  refine r_getR C ck_4 (fP_1 ho1) (by decide) fl_X4_15 rfl dX4_copyFrom_32 ?_
  refine r_iconst C ic_0 dX4_copyFrom_35 ?_
  refine r_aload_n C dX4_copyFrom_36 rfl ?_
  refine r_getR C ck_4 (fP_1 hb) (by decide) fl_X4_15 rfl dX4_copyFrom_37 ?_
  refine r_iconst C ic_0 dX4_copyFrom_40 ?_
  refine r_bipush C bp_10 dX4_copyFrom_41 ?_
  obtain ⟨hi, h⟩ := ckc_e h
  refine r_copy C (iP_1 ho1) (iP_1 hb) hi ml_X4_40 gm_arraycopy (by decide) (by exact Nat.le_of_ble_eq_true rfl) dX4_copyFrom_43 h (fun σ20 h => ?_)
  refine r_aload_n C dX4_copyFrom_46 rfl ?_
  refine r_getR C ck_4 (fP_2 ho1) (by decide) fl_X4_18 rfl dX4_copyFrom_47 ?_
  refine r_iconst C ic_0 dX4_copyFrom_50 ?_
  refine r_aload_n C dX4_copyFrom_51 rfl ?_
  refine r_getR C ck_4 (fP_2 hb) (by decide) fl_X4_18 rfl dX4_copyFrom_52 ?_
  refine r_iconst C ic_0 dX4_copyFrom_55 ?_
  refine r_bipush C bp_20 dX4_copyFrom_56 ?_
  obtain ⟨hi, h⟩ := ckc_e h
  refine r_copy C (iP_2 ho1) (iP_2 hb) hi ml_X4_40 gm_arraycopy (by decide) (by exact Nat.le_of_ble_eq_true rfl) dX4_copyFrom_58 h (fun σ21 h => ?_)
  refine r_aload_n C dX4_copyFrom_61 rfl ?_
  refine r_getR C ck_4 (fP_3 ho1) (by decide) fl_X4_21 rfl dX4_copyFrom_62 ?_
  refine r_iconst C ic_0 dX4_copyFrom_65 ?_
  refine r_aload_n C dX4_copyFrom_66 rfl ?_
  refine r_getR C ck_4 (fP_3 hb) (by decide) fl_X4_21 rfl dX4_copyFrom_67 ?_
  refine r_iconst C ic_0 dX4_copyFrom_70 ?_
  refine r_bipush C bp_20 dX4_copyFrom_71 ?_
  obtain ⟨hi, h⟩ := ckc_e h
  refine r_copy C (iP_3 ho1) (iP_3 hb) hi ml_X4_40 gm_arraycopy (by decide) (by exact Nat.le_of_ble_eq_true rfl) dX4_copyFrom_73 h (fun σ22 h => ?_)
  refine r_aload_n C dX4_copyFrom_76 rfl ?_
  refine r_getR C ck_4 (fP_4 ho1) (by decide) fl_X4_24 rfl dX4_copyFrom_77 ?_
  refine r_iconst C ic_0 dX4_copyFrom_80 ?_
  refine r_aload_n C dX4_copyFrom_81 rfl ?_
  refine r_getR C ck_4 (fP_4 hb) (by decide) fl_X4_24 rfl dX4_copyFrom_82 ?_
  refine r_iconst C ic_0 dX4_copyFrom_85 ?_
  refine r_bipush C bp_20 dX4_copyFrom_86 ?_
  obtain ⟨hi, h⟩ := ckc_e h
  refine r_copy C (iP_4 ho1) (iP_4 hb) hi ml_X4_40 gm_arraycopy (by decide) (by exact Nat.le_of_ble_eq_true rfl) dX4_copyFrom_88 h (fun σ23 h => ?_)
  refine r_aload_n C dX4_copyFrom_91 rfl ?_
  refine r_getR C ck_4 (fP_5 ho1) (by decide) fl_X4_27 rfl dX4_copyFrom_92 ?_
  refine r_iconst C ic_0 dX4_copyFrom_95 ?_
  refine r_aload_n C dX4_copyFrom_96 rfl ?_
  refine r_getR C ck_4 (fP_5 hb) (by decide) fl_X4_27 rfl dX4_copyFrom_97 ?_
  refine r_iconst C ic_0 dX4_copyFrom_100 ?_
  refine r_bipush C bp_20 dX4_copyFrom_101 ?_
  obtain ⟨hi, h⟩ := ckc_e h
  refine r_copy C (iP_5 ho1) (iP_5 hb) hi ml_X4_40 gm_arraycopy (by decide) (by exact Nat.le_of_ble_eq_true rfl) dX4_copyFrom_103 h (fun σ24 h => ?_)
  exact r_vret C rfl (Nat.le_of_ble_eq_true rfl) dX4_copyFrom_106 (re_v h)
set_option maxHeartbeats 4000000 in
set_option maxRecDepth 100000 in
theorem mX1_remember {l : Launch} {D : va_G} {ad : Nat → Nat} {cy : Nat → ClassId} (hl : l.stackTraces = false) (hI : Inj ad)   {σ τ : Mem} (h : fX1_remember σ = some τ) : Co l D ad cy yX1_remember cX1_remember 2 (Option.none : Option Jvm.ClassFile.FieldType) 2 121 0 [.ref (ad 81), .ref (ad 1)] σ (zv) τ := by
  refine co_of (av := [.inr 81, .inr 1]) hl hI (by decide +kernel) (Nat.le_of_ble_eq_true rfl) [some (.inr 81), some (.inr 1)] rfl (fun V C => ?_)
  have C : Rl l D ad cy RX1 cX1_remember 2 (Option.none : Option Jvm.ClassFile.FieldType) 2 121 0 (zv) τ V := C
  refine r_aload_n C dX1_remember_0 rfl ?_
  refine r_getR C ck_1 f_81_0 (by decide) fl_X1_11 rfl dX1_remember_1 ?_
  refine r_aload_n C dX1_remember_4 rfl ?_
  refine r_getI C ck_1 f_81_1 (by decide) fl_X1_17 rfl dX1_remember_5 ?_
  refine r_aload_n C dX1_remember_8 rfl ?_
  refine r_getI C ck_1 f_81_2 (by decide) fl_X1_21 rfl dX1_remember_9 ?_
  refine r_iadd C dX1_remember_12 ?_
  refine r_bipush C bp_8 dX1_remember_13 ?_
  refine r_irem C dX1_remember_15 (by decide) ?_
  obtain ⟨ha9, h⟩ := ck_e h
  refine r_orald C _ a_82 ha9 rfl dX1_remember_16 ?_
  refine r_aload_n C dX1_remember_17 rfl ?_
  refine bv_e h (fun σ10 hf10 h => ?_)
  refine r_callVv C g_X4_copyFrom hc_4 (oP (row_82 ha9)) ml_X1_25 (mX4_copyFrom hl hI (row_82 ha9) (⟨0, by decide, rfl⟩ : isP 1) hf10) rfl rfl (by exact Nat.le_of_ble_eq_true rfl) ⟨Nat.le_of_ble_eq_true rfl, Nat.le_of_ble_eq_true rfl, Nat.le_of_ble_eq_true rfl⟩ dX1_remember_18 ?_
  refine r_aload_n C dX1_remember_21 rfl ?_
  refine r_getI C ck_1 f_81_2 (by decide) fl_X1_21 rfl dX1_remember_22 ?_
  refine r_bipush C bp_8 dX1_remember_25 ?_
  refine r_ic_ge C (tgt := 43) h (by decide) dX1_remember_27 (fun hc h => ?_) (fun hc h => ?_)
  · refine r_aload_n C dX1_remember_43 rfl ?_
    refine r_aload_n C dX1_remember_44 rfl ?_
    refine r_getI C ck_1 f_81_1 (by decide) fl_X1_17 rfl dX1_remember_45 ?_
    refine r_iconst C ic_1 dX1_remember_48 ?_
    refine r_iadd C dX1_remember_49 ?_
    refine r_bipush C bp_8 dX1_remember_50 ?_
    refine r_irem C dX1_remember_52 (by decide) ?_
    refine r_putI C ck_1 f_81_1 (by decide) fl_X1_17 rfl rfl rfl rfl rfl dX1_remember_53 h (fun σ11 h => ?_)
    exact r_vret C rfl (Nat.le_of_ble_eq_true rfl) dX1_remember_56 (re_v h)
  · refine r_aload_n C dX1_remember_30 rfl ?_
    refine r_dup C rfl dX1_remember_31 ?_
    refine r_getI C ck_1 f_81_2 (by decide) fl_X1_21 rfl dX1_remember_32 ?_
    refine r_iconst C ic_1 dX1_remember_35 ?_
    refine r_iadd C dX1_remember_36 ?_
    refine r_putI C ck_1 f_81_2 (by decide) fl_X1_21 rfl rfl rfl rfl rfl dX1_remember_37 h (fun σ12 h => ?_)
    refine r_goto C (tgt := 56) (by decide) dX1_remember_40 ?_
    exact r_vret C rfl (Nat.le_of_ble_eq_true rfl) dX1_remember_56 (re_v h)
set_option maxHeartbeats 4000000 in
set_option maxRecDepth 100000 in
theorem mX4_putVariable {l : Launch} {D : va_G} {ad : Nat → Nat} {cy : Nat → ClassId} (hl : l.stackTraces = false) (hI : Inj ad)   {σ τ : Mem} {a1 : Int32} (h : fX4_putVariable σ a1 = some τ) : Co l D ad cy yX4_putVariable cX4_putVariable 2 (Option.none : Option Jvm.ClassFile.FieldType) 1 100 0 [.ref (ad 1), .int a1] σ (zv) τ := by
  refine co_of (av := [.inr 1, .inl a1]) hl hI (by decide +kernel) (Nat.le_of_ble_eq_true rfl) [some (.inr 1), some (.inl a1)] rfl (fun V C => ?_)
  have C : Rl l D ad cy RX4 cX4_putVariable 2 (Option.none : Option Jvm.ClassFile.FieldType) 1 100 0 (zv) τ V := C
  refine r_aload_n C dX4_putVariable_0 rfl ?_
  refine r_getR C ck_4 f_1_0 (by decide) fl_X4_9 rfl dX4_putVariable_1 ?_
  refine r_aload_n C dX4_putVariable_4 rfl ?_
  refine r_getI C ck_4 f_1_7 (by decide) fl_X4_33 rfl dX4_putVariable_5 ?_
  refine r_iload_n C dX4_putVariable_8 rfl ?_
  obtain ⟨hi, h⟩ := ck_e h
  refine r_iast C i_2 hi dX4_putVariable_9 h (fun σ7 h => ?_)
  refine r_aload_n C dX4_putVariable_10 rfl ?_
  refine r_getR C ck_4 f_1_1 (by decide) fl_X4_15 rfl dX4_putVariable_11 ?_
  refine r_aload_n C dX4_putVariable_14 rfl ?_
  refine r_getI C ck_4 f_1_7 (by decide) fl_X4_33 rfl dX4_putVariable_15 ?_
  refine r_iconst C ic_0 dX4_putVariable_18 ?_
  obtain ⟨hi, h⟩ := ck_e h
  refine r_iast C i_3 hi dX4_putVariable_19 h (fun σ8 h => ?_)
  refine r_aload_n C dX4_putVariable_20 rfl ?_
  refine r_dup C rfl dX4_putVariable_21 ?_
  refine r_getI C ck_4 f_1_7 (by decide) fl_X4_33 rfl dX4_putVariable_22 ?_
  refine r_iconst C ic_1 dX4_putVariable_25 ?_
  refine r_iadd C dX4_putVariable_26 ?_
  refine r_putI C ck_4 f_1_7 (by decide) fl_X4_33 rfl rfl rfl rfl rfl dX4_putVariable_27 h (fun σ9 h => ?_)
  exact r_vret C rfl (Nat.le_of_ble_eq_true rfl) dX4_putVariable_30 (re_v h)
set_option maxHeartbeats 4000000 in
set_option maxRecDepth 100000 in
theorem mJ6_bitCount_0f7a4 {l : Launch} {D : va_G} {ad : Nat → Nat} {cy : Nat → ClassId} (hl : l.stackTraces = false) (hI : Inj ad)   {σ τ : Mem} {a0 : Int32} {r : Int32} (h : fJ6_bitCount_0f7a4 σ a0 = some (r, τ)) : Co l D ad cy yJ6_bitCount_0f7a4 cJ6_bitCount_0f7a4 1 (Option.some Jvm.ClassFile.FieldType.int) 1 100 0 [.int a0] σ (zi r) τ := by
  refine co_of (av := [.inl a0]) hl hI (by decide +kernel) (Nat.le_of_ble_eq_true rfl) [some (.inl a0)] rfl (fun V C => ?_)
  have C : Rl l D ad cy RJ6 cJ6_bitCount_0f7a4 1 (Option.some Jvm.ClassFile.FieldType.int) 1 100 0 (zi r) τ V := C
  refine r_iload_n C dJ6_bitCount_0f7a4_0 rfl ?_
  refine r_iload_n C dJ6_bitCount_0f7a4_1 rfl ?_
  refine r_iconst C ic_1 dJ6_bitCount_0f7a4_2 ?_
  refine r_iushr C dJ6_bitCount_0f7a4_3 ?_
  refine r_ldcw C kc_J6_265 dJ6_bitCount_0f7a4_4 ?_
  refine r_iand C dJ6_bitCount_0f7a4_7 ?_
  refine r_isub C dJ6_bitCount_0f7a4_8 ?_
  refine r_istoreL_n C h (by decide) dJ6_bitCount_0f7a4_9 (fun x11 h => ?_)
  refine r_iload_n C dJ6_bitCount_0f7a4_10 rfl ?_
  refine r_ldcw C kc_J6_266 dJ6_bitCount_0f7a4_11 ?_
  refine r_iand C dJ6_bitCount_0f7a4_14 ?_
  refine r_iload_n C dJ6_bitCount_0f7a4_15 rfl ?_
  refine r_iconst C ic_2 dJ6_bitCount_0f7a4_16 ?_
  refine r_iushr C dJ6_bitCount_0f7a4_17 ?_
  refine r_ldcw C kc_J6_266 dJ6_bitCount_0f7a4_18 ?_
  refine r_iand C dJ6_bitCount_0f7a4_21 ?_
  refine r_iadd C dJ6_bitCount_0f7a4_22 ?_
  refine r_istoreL_n C h (by decide) dJ6_bitCount_0f7a4_23 (fun x12 h => ?_)
  refine r_iload_n C dJ6_bitCount_0f7a4_24 rfl ?_
  refine r_iload_n C dJ6_bitCount_0f7a4_25 rfl ?_
  refine r_iconst C ic_4 dJ6_bitCount_0f7a4_26 ?_
  refine r_iushr C dJ6_bitCount_0f7a4_27 ?_
  refine r_iadd C dJ6_bitCount_0f7a4_28 ?_
  refine r_ldcw C kc_J6_267 dJ6_bitCount_0f7a4_29 ?_
  refine r_iand C dJ6_bitCount_0f7a4_32 ?_
  refine r_istoreL_n C h (by decide) dJ6_bitCount_0f7a4_33 (fun x13 h => ?_)
  refine r_iload_n C dJ6_bitCount_0f7a4_34 rfl ?_
  refine r_iload_n C dJ6_bitCount_0f7a4_35 rfl ?_
  refine r_bipush C bp_8 dJ6_bitCount_0f7a4_36 ?_
  refine r_iushr C dJ6_bitCount_0f7a4_38 ?_
  refine r_iadd C dJ6_bitCount_0f7a4_39 ?_
  refine r_istoreL_n C h (by decide) dJ6_bitCount_0f7a4_40 (fun x14 h => ?_)
  refine r_iload_n C dJ6_bitCount_0f7a4_41 rfl ?_
  refine r_iload_n C dJ6_bitCount_0f7a4_42 rfl ?_
  refine r_bipush C bp_16 dJ6_bitCount_0f7a4_43 ?_
  refine r_iushr C dJ6_bitCount_0f7a4_45 ?_
  refine r_iadd C dJ6_bitCount_0f7a4_46 ?_
  refine r_istoreL_n C h (by decide) dJ6_bitCount_0f7a4_47 (fun x15 h => ?_)
  refine r_iload_n C dJ6_bitCount_0f7a4_48 rfl ?_
  refine r_bipush C bp_63 dJ6_bitCount_0f7a4_49 ?_
  refine r_iand C dJ6_bitCount_0f7a4_51 ?_
  exact r_iret C rfl (Nat.le_of_ble_eq_true rfl) dJ6_bitCount_0f7a4_52 (re_i h)
set_option maxHeartbeats 4000000 in
set_option maxRecDepth 100000 in
theorem mX9_areMembers {l : Launch} {D : va_G} {ad : Nat → Nat} {cy : Nat → ClassId} (hl : l.stackTraces = false) (hI : Inj ad)   {σ τ : Mem} {a0 a1 : Int32} {r : Int32} (h : fX9_areMembers σ a0 a1 = some (r, τ)) : Co l D ad cy yX9_areMembers cX9_areMembers 2 (Option.some Jvm.ClassFile.FieldType.boolean) 1 100 0 [.int a0, .int a1] σ (zi r) τ := by
  refine co_of (av := [.inl a0, .inl a1]) hl hI (by decide +kernel) (Nat.le_of_ble_eq_true rfl) [some (.inl a0), some (.inl a1)] rfl (fun V C => ?_)
  have C : Rl l D ad cy RX9 cX9_areMembers 2 (Option.some Jvm.ClassFile.FieldType.boolean) 1 100 0 (zi r) τ V := C
  refine r_iload_n C dX9_areMembers_0 rfl ?_
  refine r_iload_n C dX9_areMembers_1 rfl ?_
  refine r_iushr C dX9_areMembers_2 ?_
  refine r_if_ne C (tgt := 10) h (by decide) dX9_areMembers_3 (fun hc h => ?_) (fun hc h => ?_)
  · refine r_iconst C ic_0 dX9_areMembers_10 ?_
    exact r_zret C rfl (Nat.le_of_ble_eq_true rfl) (Or.inl rfl) dX9_areMembers_11 (re_i h)
  · refine r_iconst C ic_1 dX9_areMembers_6 ?_
    refine r_goto C (tgt := 11) (by decide) dX9_areMembers_7 ?_
    exact r_zret C rfl (Nat.le_of_ble_eq_true rfl) (Or.inr rfl) dX9_areMembers_11 (re_i h)
set_option maxHeartbeats 4000000 in
set_option maxRecDepth 100000 in
theorem mX4_putConstraint {l : Launch} {D : va_G} {ad : Nat → Nat} {cy : Nat → ClassId} (hl : l.stackTraces = false) (hI : Inj ad)   {σ τ : Mem} {a1 a2 a3 a4 : Int32} (h : fX4_putConstraint σ a1 a2 a3 a4 = some τ) : Co l D ad cy yX4_putConstraint cX4_putConstraint 5 (Option.none : Option Jvm.ClassFile.FieldType) 1 100 0 [.ref (ad 1), .int a1, .int a2, .int a3, .int a4] σ (zv) τ := by
  refine co_of (av := [.inr 1, .inl a1, .inl a2, .inl a3, .inl a4]) hl hI (by decide +kernel) (Nat.le_of_ble_eq_true rfl) [some (.inr 1), some (.inl a1), some (.inl a2), some (.inl a3), some (.inl a4)] rfl (fun V C => ?_)
  have C : Rl l D ad cy RX4 cX4_putConstraint 5 (Option.none : Option Jvm.ClassFile.FieldType) 1 100 0 (zv) τ V := C
  refine r_aload_n C dX4_putConstraint_0 rfl ?_
  refine r_getR C ck_4 f_1_2 (by decide) fl_X4_18 rfl dX4_putConstraint_1 ?_
  refine r_aload_n C dX4_putConstraint_4 rfl ?_
  refine r_getI C ck_4 f_1_8 (by decide) fl_X4_37 rfl dX4_putConstraint_5 ?_
  refine r_iload_n C dX4_putConstraint_8 rfl ?_
  obtain ⟨hi, h⟩ := ck_e h
  refine r_iast C i_4 hi dX4_putConstraint_9 h (fun σ11 h => ?_)
  refine r_aload_n C dX4_putConstraint_10 rfl ?_
  refine r_getR C ck_4 f_1_3 (by decide) fl_X4_21 rfl dX4_putConstraint_11 ?_
  refine r_aload_n C dX4_putConstraint_14 rfl ?_
  refine r_getI C ck_4 f_1_8 (by decide) fl_X4_37 rfl dX4_putConstraint_15 ?_
  refine r_iload_n C dX4_putConstraint_18 rfl ?_
  obtain ⟨hi, h⟩ := ck_e h
  refine r_iast C i_5 hi dX4_putConstraint_19 h (fun σ12 h => ?_)
  refine r_aload_n C dX4_putConstraint_20 rfl ?_
  refine r_getR C ck_4 f_1_4 (by decide) fl_X4_24 rfl dX4_putConstraint_21 ?_
  refine r_aload_n C dX4_putConstraint_24 rfl ?_
  refine r_getI C ck_4 f_1_8 (by decide) fl_X4_37 rfl dX4_putConstraint_25 ?_
  refine r_iload_n C dX4_putConstraint_28 rfl ?_
  obtain ⟨hi, h⟩ := ck_e h
  refine r_iast C i_6 hi dX4_putConstraint_29 h (fun σ13 h => ?_)
  refine r_aload_n C dX4_putConstraint_30 rfl ?_
  refine r_getR C ck_4 f_1_5 (by decide) fl_X4_27 rfl dX4_putConstraint_31 ?_
  refine r_aload_n C dX4_putConstraint_34 rfl ?_
  refine r_getI C ck_4 f_1_8 (by decide) fl_X4_37 rfl dX4_putConstraint_35 ?_
  refine r_iload C dX4_putConstraint_38 rfl ?_
  obtain ⟨hi, h⟩ := ck_e h
  refine r_iast C i_7 hi dX4_putConstraint_40 h (fun σ14 h => ?_)
  refine r_aload_n C dX4_putConstraint_41 rfl ?_
  refine r_dup C rfl dX4_putConstraint_42 ?_
  refine r_getI C ck_4 f_1_8 (by decide) fl_X4_37 rfl dX4_putConstraint_43 ?_
  refine r_iconst C ic_1 dX4_putConstraint_46 ?_
  refine r_iadd C dX4_putConstraint_47 ?_
  refine r_putI C ck_4 f_1_8 (by decide) fl_X4_37 rfl rfl rfl rfl rfl dX4_putConstraint_48 h (fun σ15 h => ?_)
  exact r_vret C rfl (Nat.le_of_ble_eq_true rfl) dX4_putConstraint_51 (re_v h)
set_option maxHeartbeats 4000000 in
set_option maxRecDepth 100000 in
theorem mX4_dropConstraint {l : Launch} {D : va_G} {ad : Nat → Nat} {cy : Nat → ClassId} (hl : l.stackTraces = false) (hI : Inj ad)   {σ τ : Mem} {a1 : Int32} (h : fX4_dropConstraint σ a1 = some τ) : Co l D ad cy yX4_dropConstraint cX4_dropConstraint 3 (Option.none : Option Jvm.ClassFile.FieldType) 1 100 0 [.ref (ad 1), .int a1] σ (zv) τ := by
  refine co_of (av := [.inr 1, .inl a1]) hl hI (by decide +kernel) (Nat.le_of_ble_eq_true rfl) [some (.inr 1), some (.inl a1), none] rfl (fun V C => ?_)
  have C : Rl l D ad cy RX4 cX4_dropConstraint 3 (Option.none : Option Jvm.ClassFile.FieldType) 1 100 0 (zv) τ V := C
  refine r_aload_n C dX4_dropConstraint_0 rfl ?_
  refine r_getI C ck_4 f_1_8 (by decide) fl_X4_37 rfl dX4_dropConstraint_1 ?_
  refine r_iload_n C dX4_dropConstraint_4 rfl ?_
  refine r_isub C dX4_dropConstraint_5 ?_
  refine r_iconst C ic_1 dX4_dropConstraint_6 ?_
  refine r_isub C dX4_dropConstraint_7 ?_
  refine r_istoreL_n C h (by decide) dX4_dropConstraint_8 (fun x13 h => ?_)
  refine r_aload_n C dX4_dropConstraint_9 rfl ?_
  refine r_getR C ck_4 f_1_2 (by decide) fl_X4_18 rfl dX4_dropConstraint_10 ?_
  refine r_iload_n C dX4_dropConstraint_13 rfl ?_
  refine r_iconst C ic_1 dX4_dropConstraint_14 ?_
  refine r_iadd C dX4_dropConstraint_15 ?_
  refine r_aload_n C dX4_dropConstraint_16 rfl ?_
  refine r_getR C ck_4 f_1_2 (by decide) fl_X4_18 rfl dX4_dropConstraint_17 ?_
  refine r_iload_n C dX4_dropConstraint_20 rfl ?_
  refine r_iload_n C dX4_dropConstraint_21 rfl ?_
  obtain ⟨hi, h⟩ := ckc_e h
  refine r_copy C i_4 i_4 hi ml_X4_40 gm_arraycopy (by decide) (by exact Nat.le_of_ble_eq_true rfl) dX4_dropConstraint_22 h (fun σ14 h => ?_)
  refine r_aload_n C dX4_dropConstraint_25 rfl ?_
  refine r_getR C ck_4 f_1_3 (by decide) fl_X4_21 rfl dX4_dropConstraint_26 ?_
  refine r_iload_n C dX4_dropConstraint_29 rfl ?_
  refine r_iconst C ic_1 dX4_dropConstraint_30 ?_
  refine r_iadd C dX4_dropConstraint_31 ?_
  refine r_aload_n C dX4_dropConstraint_32 rfl ?_
  refine r_getR C ck_4 f_1_3 (by decide) fl_X4_21 rfl dX4_dropConstraint_33 ?_
  refine r_iload_n C dX4_dropConstraint_36 rfl ?_
  refine r_iload_n C dX4_dropConstraint_37 rfl ?_
  obtain ⟨hi, h⟩ := ckc_e h
  refine r_copy C i_5 i_5 hi ml_X4_40 gm_arraycopy (by decide) (by exact Nat.le_of_ble_eq_true rfl) dX4_dropConstraint_38 h (fun σ15 h => ?_)
  refine r_aload_n C dX4_dropConstraint_41 rfl ?_
  refine r_getR C ck_4 f_1_4 (by decide) fl_X4_24 rfl dX4_dropConstraint_42 ?_
  refine r_iload_n C dX4_dropConstraint_45 rfl ?_
  refine r_iconst C ic_1 dX4_dropConstraint_46 ?_
  refine r_iadd C dX4_dropConstraint_47 ?_
  refine r_aload_n C dX4_dropConstraint_48 rfl ?_
  refine r_getR C ck_4 f_1_4 (by decide) fl_X4_24 rfl dX4_dropConstraint_49 ?_
  refine r_iload_n C dX4_dropConstraint_52 rfl ?_
  refine r_iload_n C dX4_dropConstraint_53 rfl ?_
  obtain ⟨hi, h⟩ := ckc_e h
  refine r_copy C i_6 i_6 hi ml_X4_40 gm_arraycopy (by decide) (by exact Nat.le_of_ble_eq_true rfl) dX4_dropConstraint_54 h (fun σ16 h => ?_)
  refine r_aload_n C dX4_dropConstraint_57 rfl ?_
  refine r_getR C ck_4 f_1_5 (by decide) fl_X4_27 rfl dX4_dropConstraint_58 ?_
  refine r_iload_n C dX4_dropConstraint_61 rfl ?_
  refine r_iconst C ic_1 dX4_dropConstraint_62 ?_
  refine r_iadd C dX4_dropConstraint_63 ?_
  refine r_aload_n C dX4_dropConstraint_64 rfl ?_
  refine r_getR C ck_4 f_1_5 (by decide) fl_X4_27 rfl dX4_dropConstraint_65 ?_
  refine r_iload_n C dX4_dropConstraint_68 rfl ?_
  refine r_iload_n C dX4_dropConstraint_69 rfl ?_
  obtain ⟨hi, h⟩ := ckc_e h
  refine r_copy C i_7 i_7 hi ml_X4_40 gm_arraycopy (by decide) (by exact Nat.le_of_ble_eq_true rfl) dX4_dropConstraint_70 h (fun σ17 h => ?_)
  refine r_aload_n C dX4_dropConstraint_73 rfl ?_
  refine r_dup C rfl dX4_dropConstraint_74 ?_
  refine r_getI C ck_4 f_1_8 (by decide) fl_X4_37 rfl dX4_dropConstraint_75 ?_
  refine r_iconst C ic_1 dX4_dropConstraint_78 ?_
  refine r_isub C dX4_dropConstraint_79 ?_
  refine r_putI C ck_4 f_1_8 (by decide) fl_X4_37 rfl rfl rfl rfl rfl dX4_dropConstraint_80 h (fun σ18 h => ?_)
  exact r_vret C rfl (Nat.le_of_ble_eq_true rfl) dX4_dropConstraint_83 (re_v h)
set_option maxHeartbeats 4000000 in
set_option maxRecDepth 100000 in
theorem mX4_violatedConstraints {l : Launch} {D : va_G} {ad : Nat → Nat} {cy : Nat → ClassId} (hl : l.stackTraces = false) (hI : Inj ad)   {σ τ : Mem} {r : Int32} (h : fX4_violatedConstraints σ = some (r, τ)) : Co l D ad cy yX4_violatedConstraints cX4_violatedConstraints 3 (Option.some Jvm.ClassFile.FieldType.int) 3 149 0 [.ref (ad 1)] σ (zi r) τ := by
  refine co_of (av := [.inr 1]) hl hI (by decide +kernel) (Nat.le_of_ble_eq_true rfl) [some (.inr 1), none, none] rfl (fun V C => ?_)
  have C : Rl l D ad cy RX4 cX4_violatedConstraints 3 (Option.some Jvm.ClassFile.FieldType.int) 3 149 0 (zi r) τ V := C
  have L4 : ∀ (n : Nat) (σ : Mem) (l1 l2 : Int32), fX4_violatedConstraints_L4  n σ l1 l2 = some (r, τ) → V 0 σ 4 [some (.inr 1), some (.inl l1), some (.inl l2)] [] := by
    intro n4
    induction n4 with
    | zero => intro σ l1 l2 h; exact no_e h
    | succ n4 ih4 =>
      have L27 : ∀ (σ : Mem) (l1 l2 : Int32), fX4_violatedConstraints_L27 (fX4_violatedConstraints_L4  n4)  σ l1 l2 = some (r, τ) → V 0 σ 27 [some (.inr 1), some (.inl l1), some (.inl l2)] [] := by
        intro  σ l1 l2 h
        refine r_iinc C ic_1 (by decide) dX4_violatedConstraints_27 rfl ?_
        refine r_goto C (tgt := 4) (by decide) dX4_violatedConstraints_30 ?_
        exact ih4 _ _ _ h
      intro σ l1 l2 h
      have h : fX4_violatedConstraints_B4  (fX4_violatedConstraints_L4  n4) σ l1 l2 = some (r, τ) := h
      refine r_iload_n C dX4_violatedConstraints_4 rfl ?_
      refine r_aload_n C dX4_violatedConstraints_5 rfl ?_
      refine r_getI C ck_4 f_1_8 (by decide) fl_X4_37 rfl dX4_violatedConstraints_6 ?_
      refine r_ic_ge C (tgt := 33) h (by decide) dX4_violatedConstraints_9 (fun hc h => ?_) (fun hc h => ?_)
      · refine r_iload_n C dX4_violatedConstraints_33 rfl ?_
        exact r_iret C rfl (Nat.le_of_ble_eq_true rfl) dX4_violatedConstraints_34 (re_i h)
      · refine r_aload_n C dX4_violatedConstraints_12 rfl ?_
        refine r_iload_n C dX4_violatedConstraints_13 rfl ?_
        refine r_aload_n C dX4_violatedConstraints_14 rfl ?_
        refine r_getR C ck_4 f_1_1 (by decide) fl_X4_15 rfl dX4_violatedConstraints_15 ?_
        refine bd_e h (fun v3 σ3 hf3 h => ?_)
        refine r_callVi C g_X4_violationIn hc_4 o_1 ml_X4_50 (mX4_violationIn hl hI i_3 hf3) rfl rfl (by exact Nat.le_of_ble_eq_true rfl) ⟨Nat.le_of_ble_eq_true rfl, Nat.le_of_ble_eq_true rfl, Nat.le_of_ble_eq_true rfl⟩ dX4_violatedConstraints_18 ?_
        refine r_if_le C (tgt := 27) h (by decide) dX4_violatedConstraints_21 (fun hc h => ?_) (fun hc h => ?_)
        · exact L27 _ _ _ h
        · refine r_iinc C ic_1 (by decide) dX4_violatedConstraints_24 rfl ?_
          exact L27 _ _ _ h
  refine r_iconst C ic_0 dX4_violatedConstraints_0 ?_
  refine r_istore_n C (by decide) dX4_violatedConstraints_1 ?_
  refine r_iconst C ic_0 dX4_violatedConstraints_2 ?_
  refine r_istore_n C (by decide) dX4_violatedConstraints_3 ?_
  exact L4 FU _ _ _ h
set_option maxHeartbeats 4000000 in
set_option maxRecDepth 100000 in
theorem mX4_combinations {l : Launch} {D : va_G} {ad : Nat → Nat} {cy : Nat → ClassId} (hl : l.stackTraces = false) (hI : Inj ad)   {σ τ : Mem} {r : Int32} (h : fX4_combinations σ = some (r, τ)) : Co l D ad cy yX4_combinations cX4_combinations 3 (Option.some Jvm.ClassFile.FieldType.int) 1 100 0 [.ref (ad 1)] σ (zi r) τ := by
  refine co_of (av := [.inr 1]) hl hI (by decide +kernel) (Nat.le_of_ble_eq_true rfl) [some (.inr 1), none, none] rfl (fun V C => ?_)
  have C : Rl l D ad cy RX4 cX4_combinations 3 (Option.some Jvm.ClassFile.FieldType.int) 1 100 0 (zi r) τ V := C
  have L4 : ∀ (n : Nat) (σ : Mem) (l1 l2 : Int32), fX4_combinations_L4  n σ l1 l2 = some (r, τ) → V 0 σ 4 [some (.inr 1), some (.inl l1), some (.inl l2)] [] := by
    intro n4
    induction n4 with
    | zero => intro σ l1 l2 h; exact no_e h
    | succ n4 ih4 =>
      intro σ l1 l2 h
      have h : fX4_combinations_B4  (fX4_combinations_L4  n4) σ l1 l2 = some (r, τ) := h
      refine r_iload_n C dX4_combinations_4 rfl ?_
      refine r_aload_n C dX4_combinations_5 rfl ?_
      refine r_getI C ck_4 f_1_7 (by decide) fl_X4_33 rfl dX4_combinations_6 ?_
      refine r_ic_ge C (tgt := 27) h (by decide) dX4_combinations_9 (fun hc h => ?_) (fun hc h => ?_)
      · refine r_iload_n C dX4_combinations_27 rfl ?_
        exact r_iret C rfl (Nat.le_of_ble_eq_true rfl) dX4_combinations_28 (re_i h)
      · refine r_iload_n C dX4_combinations_12 rfl ?_
        refine r_aload_n C dX4_combinations_13 rfl ?_
        refine r_getR C ck_4 f_1_0 (by decide) fl_X4_9 rfl dX4_combinations_14 ?_
        refine r_iload_n C dX4_combinations_17 rfl ?_
        obtain ⟨hi, h⟩ := ck_e h
        refine r_iald C i_2 hi dX4_combinations_18 ?_
        refine r_imul C dX4_combinations_19 ?_
        refine r_istoreL_n C h (by decide) dX4_combinations_20 (fun x3 h => ?_)
        refine r_iinc C ic_1 (by decide) dX4_combinations_21 rfl ?_
        refine r_goto C (tgt := 4) (by decide) dX4_combinations_24 ?_
        exact ih4 _ _ _ h
  refine r_iconst C ic_1 dX4_combinations_0 ?_
  refine r_istore_n C (by decide) dX4_combinations_1 ?_
  refine r_iconst C ic_0 dX4_combinations_2 ?_
  refine r_istore_n C (by decide) dX4_combinations_3 ?_
  exact L4 FU _ _ _ h
set_option maxHeartbeats 4000000 in
set_option maxRecDepth 100000 in
theorem mX4_isMember {l : Launch} {D : va_G} {ad : Nat → Nat} {cy : Nat → ClassId} (hl : l.stackTraces = false) (hI : Inj ad)   {σ τ : Mem} {a1 a2 : Int32} {r : Int32} (h : fX4_isMember σ a1 a2 = some (r, τ)) : Co l D ad cy yX4_isMember cX4_isMember 3 (Option.some Jvm.ClassFile.FieldType.boolean) 1 100 0 [.ref (ad 1), .int a1, .int a2] σ (zi r) τ := by
  refine co_of (av := [.inr 1, .inl a1, .inl a2]) hl hI (by decide +kernel) (Nat.le_of_ble_eq_true rfl) [some (.inr 1), some (.inl a1), some (.inl a2)] rfl (fun V C => ?_)
  have C : Rl l D ad cy RX4 cX4_isMember 3 (Option.some Jvm.ClassFile.FieldType.boolean) 1 100 0 (zi r) τ V := C
  refine r_aload_n C dX4_isMember_0 rfl ?_
  refine r_getR C ck_4 f_1_3 (by decide) fl_X4_21 rfl dX4_isMember_1 ?_
  refine r_iload_n C dX4_isMember_4 rfl ?_
  obtain ⟨hi, h⟩ := ck_e h
  refine r_iald C i_5 hi dX4_isMember_5 ?_
  refine r_iload_n C dX4_isMember_6 rfl ?_
  refine r_ishr C dX4_isMember_7 ?_
  refine r_iconst C ic_1 dX4_isMember_8 ?_
  refine r_iand C dX4_isMember_9 ?_
  refine r_if_eq C (tgt := 17) h (by decide) dX4_isMember_10 (fun hc h => ?_) (fun hc h => ?_)
  · refine r_iconst C ic_0 dX4_isMember_17 ?_
    exact r_zret C rfl (Nat.le_of_ble_eq_true rfl) (Or.inl rfl) dX4_isMember_18 (re_i h)
  · refine r_iconst C ic_1 dX4_isMember_13 ?_
    refine r_goto C (tgt := 18) (by decide) dX4_isMember_14 ?_
    exact r_zret C rfl (Nat.le_of_ble_eq_true rfl) (Or.inr rfl) dX4_isMember_18 (re_i h)
set_option maxHeartbeats 4000000 in
set_option maxRecDepth 100000 in
theorem mX4_conflictOf {l : Launch} {D : va_G} {ad : Nat → Nat} {cy : Nat → ClassId} (hl : l.stackTraces = false) (hI : Inj ad)   {σ τ : Mem} {a1 : Int32} {r : Int32} (h : fX4_conflictOf σ a1 = some (r, τ)) : Co l D ad cy yX4_conflictOf cX4_conflictOf 4 (Option.some Jvm.ClassFile.FieldType.int) 3 149 0 [.ref (ad 1), .int a1] σ (zi r) τ := by
  refine co_of (av := [.inr 1, .inl a1]) hl hI (by decide +kernel) (Nat.le_of_ble_eq_true rfl) [some (.inr 1), some (.inl a1), none, none] rfl (fun V C => ?_)
  have C : Rl l D ad cy RX4 cX4_conflictOf 4 (Option.some Jvm.ClassFile.FieldType.int) 3 149 0 (zi r) τ V := C
  have L4 : ∀ (n : Nat) (σ : Mem) (l1 l2 l3 : Int32), fX4_conflictOf_L4  n σ l1 l2 l3 = some (r, τ) → V 0 σ 4 [some (.inr 1), some (.inl l1), some (.inl l2), some (.inl l3)] [] := by
    intro n4
    induction n4 with
    | zero => intro σ l1 l2 l3 h; exact no_e h
    | succ n4 ih4 =>
      have L40 : ∀ (σ : Mem) (l1 l2 l3 : Int32), fX4_conflictOf_L40 (fX4_conflictOf_L4  n4)  σ l1 l2 l3 = some (r, τ) → V 0 σ 40 [some (.inr 1), some (.inl l1), some (.inl l2), some (.inl l3)] [] := by
        intro  σ l1 l2 l3 h
        refine r_iinc C ic_1 (by decide) dX4_conflictOf_40 rfl ?_
        refine r_goto C (tgt := 4) (by decide) dX4_conflictOf_43 ?_
        exact ih4 _ _ _ _ h
      intro σ l1 l2 l3 h
      have h : fX4_conflictOf_B4  (fX4_conflictOf_L4  n4) σ l1 l2 l3 = some (r, τ) := h
      refine r_iload_n C dX4_conflictOf_4 rfl ?_
      refine r_aload_n C dX4_conflictOf_5 rfl ?_
      refine r_getI C ck_4 f_1_8 (by decide) fl_X4_37 rfl dX4_conflictOf_6 ?_
      refine r_ic_ge C (tgt := 46) h (by decide) dX4_conflictOf_9 (fun hc h => ?_) (fun hc h => ?_)
      · refine r_iload_n C dX4_conflictOf_46 rfl ?_
        exact r_iret C rfl (Nat.le_of_ble_eq_true rfl) dX4_conflictOf_47 (re_i h)
      · refine r_aload_n C dX4_conflictOf_12 rfl ?_
        refine r_iload_n C dX4_conflictOf_13 rfl ?_
        refine r_iload_n C dX4_conflictOf_14 rfl ?_
        refine bd_e h (fun v7 σ7 hf7 h => ?_)
        refine r_callVi C g_X4_isMember hc_4 o_1 ml_X4_54 (mX4_isMember hl hI  hf7) rfl rfl (by exact Nat.le_of_ble_eq_true rfl) ⟨Nat.le_of_ble_eq_true rfl, Nat.le_of_ble_eq_true rfl, Nat.le_of_ble_eq_true rfl⟩ dX4_conflictOf_15 ?_
        refine r_if_eq C (tgt := 40) h (by decide) dX4_conflictOf_18 (fun hc h => ?_) (fun hc h => ?_)
        · exact L40 _ _ _ _ h
        · refine r_iload_n C dX4_conflictOf_21 rfl ?_
          refine r_aload_n C dX4_conflictOf_22 rfl ?_
          refine r_getR C ck_4 f_1_5 (by decide) fl_X4_27 rfl dX4_conflictOf_23 ?_
          refine r_iload_n C dX4_conflictOf_26 rfl ?_
          obtain ⟨hi, h⟩ := ck_e h
          refine r_iald C i_7 hi dX4_conflictOf_27 ?_
          refine r_aload_n C dX4_conflictOf_28 rfl ?_
          refine r_iload_n C dX4_conflictOf_29 rfl ?_
          refine r_aload_n C dX4_conflictOf_30 rfl ?_
          refine r_getR C ck_4 f_1_1 (by decide) fl_X4_15 rfl dX4_conflictOf_31 ?_
          refine bd_e h (fun v8 σ8 hf8 h => ?_)
          refine r_callVi C g_X4_violationIn hc_4 o_1 ml_X4_50 (mX4_violationIn hl hI i_3 hf8) rfl rfl (by exact Nat.le_of_ble_eq_true rfl) ⟨Nat.le_of_ble_eq_true rfl, Nat.le_of_ble_eq_true rfl, Nat.le_of_ble_eq_true rfl⟩ dX4_conflictOf_34 ?_
          refine r_imul C dX4_conflictOf_37 ?_
          refine r_iadd C dX4_conflictOf_38 ?_
          refine r_istoreL_n C h (by decide) dX4_conflictOf_39 (fun x9 h => ?_)
          exact L40 _ _ _ _ h
  refine r_iconst C ic_0 dX4_conflictOf_0 ?_
  refine r_istore_n C (by decide) dX4_conflictOf_1 ?_
  refine r_iconst C ic_0 dX4_conflictOf_2 ?_
  refine r_istore_n C (by decide) dX4_conflictOf_3 ?_
  exact L4 FU _ _ _ _ h
set_option maxHeartbeats 4000000 in
set_option maxRecDepth 100000 in
theorem mX4_membershipsOf {l : Launch} {D : va_G} {ad : Nat → Nat} {cy : Nat → ClassId} (hl : l.stackTraces = false) (hI : Inj ad)   {σ τ : Mem} {a1 : Int32} {r : Int32} (h : fX4_membershipsOf σ a1 = some (r, τ)) : Co l D ad cy yX4_membershipsOf cX4_membershipsOf 4 (Option.some Jvm.ClassFile.FieldType.int) 2 122 0 [.ref (ad 1), .int a1] σ (zi r) τ := by
  refine co_of (av := [.inr 1, .inl a1]) hl hI (by decide +kernel) (Nat.le_of_ble_eq_true rfl) [some (.inr 1), some (.inl a1), none, none] rfl (fun V C => ?_)
  have C : Rl l D ad cy RX4 cX4_membershipsOf 4 (Option.some Jvm.ClassFile.FieldType.int) 2 122 0 (zi r) τ V := C
  have L4 : ∀ (n : Nat) (σ : Mem) (l1 l2 l3 : Int32), fX4_membershipsOf_L4  n σ l1 l2 l3 = some (r, τ) → V 0 σ 4 [some (.inr 1), some (.inl l1), some (.inl l2), some (.inl l3)] [] := by
    intro n4
    induction n4 with
    | zero => intro σ l1 l2 l3 h; exact no_e h
    | succ n4 ih4 =>
      have L24 : ∀ (σ : Mem) (l1 l2 l3 : Int32), fX4_membershipsOf_L24 (fX4_membershipsOf_L4  n4)  σ l1 l2 l3 = some (r, τ) → V 0 σ 24 [some (.inr 1), some (.inl l1), some (.inl l2), some (.inl l3)] [] := by
        intro  σ l1 l2 l3 h
        refine r_iinc C ic_1 (by decide) dX4_membershipsOf_24 rfl ?_
        refine r_goto C (tgt := 4) (by decide) dX4_membershipsOf_27 ?_
        exact ih4 _ _ _ _ h
      intro σ l1 l2 l3 h
      have h : fX4_membershipsOf_B4  (fX4_membershipsOf_L4  n4) σ l1 l2 l3 = some (r, τ) := h
      refine r_iload_n C dX4_membershipsOf_4 rfl ?_
      refine r_aload_n C dX4_membershipsOf_5 rfl ?_
      refine r_getI C ck_4 f_1_8 (by decide) fl_X4_37 rfl dX4_membershipsOf_6 ?_
      refine r_ic_ge C (tgt := 30) h (by decide) dX4_membershipsOf_9 (fun hc h => ?_) (fun hc h => ?_)
      · refine r_iload_n C dX4_membershipsOf_30 rfl ?_
        exact r_iret C rfl (Nat.le_of_ble_eq_true rfl) dX4_membershipsOf_31 (re_i h)
      · refine r_aload_n C dX4_membershipsOf_12 rfl ?_
        refine r_iload_n C dX4_membershipsOf_13 rfl ?_
        refine r_iload_n C dX4_membershipsOf_14 rfl ?_
        refine bd_e h (fun v3 σ3 hf3 h => ?_)
        refine r_callVi C g_X4_isMember hc_4 o_1 ml_X4_54 (mX4_isMember hl hI  hf3) rfl rfl (by exact Nat.le_of_ble_eq_true rfl) ⟨Nat.le_of_ble_eq_true rfl, Nat.le_of_ble_eq_true rfl, Nat.le_of_ble_eq_true rfl⟩ dX4_membershipsOf_15 ?_
        refine r_if_eq C (tgt := 24) h (by decide) dX4_membershipsOf_18 (fun hc h => ?_) (fun hc h => ?_)
        · exact L24 _ _ _ _ h
        · refine r_iinc C ic_1 (by decide) dX4_membershipsOf_21 rfl ?_
          exact L24 _ _ _ _ h
  refine r_iconst C ic_0 dX4_membershipsOf_0 ?_
  refine r_istore_n C (by decide) dX4_membershipsOf_1 ?_
  refine r_iconst C ic_0 dX4_membershipsOf_2 ?_
  refine r_istore_n C (by decide) dX4_membershipsOf_3 ?_
  exact L4 FU _ _ _ _ h
set_option maxHeartbeats 4000000 in
set_option maxRecDepth 100000 in
theorem mX4_takeValues {l : Launch} {D : va_G} {ad : Nat → Nat} {cy : Nat → ClassId} (hl : l.stackTraces = false) (hI : Inj ad) {q1 : Nat} (hq1 : isI 0 10 q1) {σ τ : Mem} (h : fX4_takeValues q1 σ = some τ) : Co l D ad cy yX4_takeValues cX4_takeValues 2 (Option.none : Option Jvm.ClassFile.FieldType) 1 100 0 [.ref (ad 1), .ref (ad q1)] σ (zv) τ := by
  refine co_of (av := [.inr 1, .inr q1]) hl hI (by decide +kernel) (Nat.le_of_ble_eq_true rfl) [some (.inr 1), some (.inr q1)] rfl (fun V C => ?_)
  have C : Rl l D ad cy RX4 cX4_takeValues 2 (Option.none : Option Jvm.ClassFile.FieldType) 1 100 0 (zv) τ V := C
  refine r_aload_n C dX4_takeValues_0 rfl ?_
  refine r_iconst C ic_0 dX4_takeValues_1 ?_
  refine r_aload_n C dX4_takeValues_2 rfl ?_
  refine r_getR C ck_4 f_1_1 (by decide) fl_X4_15 rfl dX4_takeValues_3 ?_
  refine r_iconst C ic_0 dX4_takeValues_6 ?_
  refine r_bipush C bp_10 dX4_takeValues_7 ?_
  obtain ⟨hi, h⟩ := ckc_e h
  refine r_copy C hq1 i_3 hi ml_X4_40 gm_arraycopy (by decide) (by exact Nat.le_of_ble_eq_true rfl) dX4_takeValues_9 h (fun σ3 h => ?_)
  exact r_vret C rfl (Nat.le_of_ble_eq_true rfl) dX4_takeValues_12 (re_v h)
set_option maxHeartbeats 4000000 in
set_option maxRecDepth 100000 in
theorem mX5_nextSeed {l : Launch} {D : va_G} {ad : Nat → Nat} {cy : Nat → ClassId} (hl : l.stackTraces = false) (hI : Inj ad)   {σ τ : Mem} {r : Int32} (h : fX5_nextSeed σ = some (r, τ)) : Co l D ad cy yX5_nextSeed cX5_nextSeed 1 (Option.some Jvm.ClassFile.FieldType.int) 1 100 0 [.ref (ad 83)] σ (zi r) τ := by
  refine co_of (av := [.inr 83]) hl hI (by decide +kernel) (Nat.le_of_ble_eq_true rfl) [some (.inr 83)] rfl (fun V C => ?_)
  have C : Rl l D ad cy RX5 cX5_nextSeed 1 (Option.some Jvm.ClassFile.FieldType.int) 1 100 0 (zi r) τ V := C
  refine r_aload_n C dX5_nextSeed_0 rfl ?_
  refine r_aload_n C dX5_nextSeed_1 rfl ?_
  refine r_getI C ck_5 f_83_3 (by decide) fl_X5_21 rfl dX5_nextSeed_2 ?_
  refine r_ldc C kc_X5_24 dX5_nextSeed_5 ?_
  refine r_imul C dX5_nextSeed_7 ?_
  refine r_sipush C sp_12345 dX5_nextSeed_8 ?_
  refine r_iadd C dX5_nextSeed_11 ?_
  refine r_ldc C kc_X5_25 dX5_nextSeed_12 ?_
  refine r_iand C dX5_nextSeed_14 ?_
  refine r_putI C ck_5 f_83_3 (by decide) fl_X5_21 rfl rfl rfl rfl rfl dX5_nextSeed_15 h (fun σ3 h => ?_)
  refine r_aload_n C dX5_nextSeed_18 rfl ?_
  refine r_getI C ck_5 f_83_3 (by decide) fl_X5_21 rfl dX5_nextSeed_19 ?_
  exact r_iret C rfl (Nat.le_of_ble_eq_true rfl) dX5_nextSeed_22 (re_i h)
set_option maxHeartbeats 4000000 in
set_option maxRecDepth 100000 in
theorem mX0_put {l : Launch} {D : va_G} {ad : Nat → Nat} {cy : Nat → ClassId} (hl : l.stackTraces = false) (hI : Inj ad)   {σ τ : Mem} {a1 : Int32} (h : fX0_put σ a1 = some τ) : Co l D ad cy yX0_put cX0_put 2 (Option.none : Option Jvm.ClassFile.FieldType) 1 100 0 [.ref (ad 122), .int a1] σ (zv) τ := by
  refine co_of (av := [.inr 122, .inl a1]) hl hI (by decide +kernel) (Nat.le_of_ble_eq_true rfl) [some (.inr 122), some (.inl a1)] rfl (fun V C => ?_)
  have C : Rl l D ad cy RX0 cX0_put 2 (Option.none : Option Jvm.ClassFile.FieldType) 1 100 0 (zv) τ V := C
  refine r_aload_n C dX0_put_0 rfl ?_
  refine r_getI C ck_0 f_122_1 (by decide) fl_X0_15 rfl dX0_put_1 ?_
  refine r_bipush C bp_18 dX0_put_4 ?_
  refine r_ic_ge C (tgt := 30) h (by decide) dX0_put_6 (fun hc h => ?_) (fun hc h => ?_)
  · exact r_vret C rfl (Nat.le_of_ble_eq_true rfl) dX0_put_30 (re_v h)
  · refine r_aload_n C dX0_put_9 rfl ?_
    refine r_getR C ck_0 f_122_0 (by decide) fl_X0_9 rfl dX0_put_10 ?_
    refine r_aload_n C dX0_put_13 rfl ?_
    refine r_getI C ck_0 f_122_1 (by decide) fl_X0_15 rfl dX0_put_14 ?_
    refine r_iload_n C dX0_put_17 rfl ?_
    refine r_i2c C dX0_put_18 ?_
    obtain ⟨hi, h⟩ := ck_e h
    refine r_cast C i_123 hi dX0_put_19 h (fun σ5 h => ?_)
    refine r_aload_n C dX0_put_20 rfl ?_
    refine r_dup C rfl dX0_put_21 ?_
    refine r_getI C ck_0 f_122_1 (by decide) fl_X0_15 rfl dX0_put_22 ?_
    refine r_iconst C ic_1 dX0_put_25 ?_
    refine r_iadd C dX0_put_26 ?_
    refine r_putI C ck_0 f_122_1 (by decide) fl_X0_15 rfl rfl rfl rfl rfl dX0_put_27 h (fun σ6 h => ?_)
    exact r_vret C rfl (Nat.le_of_ble_eq_true rfl) dX0_put_30 (re_v h)
set_option maxHeartbeats 4000000 in
set_option maxRecDepth 100000 in
theorem mX0_putNumber {l : Launch} {D : va_G} {ad : Nat → Nat} {cy : Nat → ClassId} (hl : l.stackTraces = false) (hI : Inj ad)   {σ τ : Mem} {a1 : Int32} (h : fX0_putNumber σ a1 = some τ) : Co l D ad cy yX0_putNumber cX0_putNumber 3 (Option.none : Option Jvm.ClassFile.FieldType) 2 121 0 [.ref (ad 122), .int a1] σ (zv) τ := by
  refine co_of (av := [.inr 122, .inl a1]) hl hI (by decide +kernel) (Nat.le_of_ble_eq_true rfl) [some (.inr 122), some (.inl a1), none] rfl (fun V C => ?_)
  have C : Rl l D ad cy RX0 cX0_putNumber 3 (Option.none : Option Jvm.ClassFile.FieldType) 2 121 0 (zv) τ V := C
  have L32 : ∀ (σ : Mem) (l2 : Int32), fX0_putNumber_L32   σ l2 = some τ → V 0 σ 32 [some (.inr 122), none, some (.inl l2)] [] := by
    intro  σ l2 h
    refine r_aload_n C dX0_putNumber_32 rfl ?_
    refine r_bipush C bp_48 dX0_putNumber_33 ?_
    refine r_iload_n C dX0_putNumber_35 rfl ?_
    refine r_bipush C bp_10 dX0_putNumber_36 ?_
    refine r_irem C dX0_putNumber_38 (by decide) ?_
    refine r_iadd C dX0_putNumber_39 ?_
    refine bv_e h (fun σ9 hf9 h => ?_)
    refine r_callVv C g_X0_put hc_0 o_122 ml_X0_25 (mX0_put hl hI  hf9) rfl rfl (by exact Nat.le_of_ble_eq_true rfl) ⟨Nat.le_of_ble_eq_true rfl, Nat.le_of_ble_eq_true rfl, Nat.le_of_ble_eq_true rfl⟩ dX0_putNumber_40 ?_
    exact r_vret C rfl (Nat.le_of_ble_eq_true rfl) dX0_putNumber_43 (re_v h)
  have L15 : ∀ (σ : Mem) (l2 : Int32), fX0_putNumber_L15   σ l2 = some τ → V 0 σ 15 [some (.inr 122), none, some (.inl l2)] [] := by
    intro  σ l2 h
    refine r_iload_n C dX0_putNumber_15 rfl ?_
    refine r_bipush C bp_9 dX0_putNumber_16 ?_
    refine r_ic_le C (tgt := 32) h (by decide) dX0_putNumber_18 (fun hc h => ?_) (fun hc h => ?_)
    · exact L32 _ _ h
    · refine r_aload_n C dX0_putNumber_21 rfl ?_
      refine r_bipush C bp_48 dX0_putNumber_22 ?_
      refine r_iload_n C dX0_putNumber_24 rfl ?_
      refine r_bipush C bp_10 dX0_putNumber_25 ?_
      refine r_idiv C dX0_putNumber_27 (by decide) ?_
      refine r_iadd C dX0_putNumber_28 ?_
      refine bv_e h (fun σ10 hf10 h => ?_)
      refine r_callVv C g_X0_put hc_0 o_122 ml_X0_25 (mX0_put hl hI  hf10) rfl rfl (by exact Nat.le_of_ble_eq_true rfl) ⟨Nat.le_of_ble_eq_true rfl, Nat.le_of_ble_eq_true rfl, Nat.le_of_ble_eq_true rfl⟩ dX0_putNumber_29 ?_
      exact L32 _ _ h
  refine r_iload_n C dX0_putNumber_0 rfl ?_
  refine r_mabs C ml_X0_45 gm_abs (by decide) (by exact Nat.le_of_ble_eq_true rfl) (by decide) dX0_putNumber_1 ?_
  refine r_istoreL_n C h (by decide) dX0_putNumber_4 (fun x11 h => ?_)
  refine r_iload_n C dX0_putNumber_5 rfl ?_
  refine r_if_ge C (tgt := 15) h (by decide) dX0_putNumber_6 (fun hc h => ?_) (fun hc h => ?_)
  · refine r_weak C [some (.inr 122), none, some (.inl x11)] ⟨rfl, ⟨rfl, trivial⟩⟩ ?_
    exact L15 _ _ h
  · refine r_aload_n C dX0_putNumber_9 rfl ?_
    refine r_bipush C bp_45 dX0_putNumber_10 ?_
    refine bv_e h (fun σ12 hf12 h => ?_)
    refine r_callVv C g_X0_put hc_0 o_122 ml_X0_25 (mX0_put hl hI  hf12) rfl rfl (by exact Nat.le_of_ble_eq_true rfl) ⟨Nat.le_of_ble_eq_true rfl, Nat.le_of_ble_eq_true rfl, Nat.le_of_ble_eq_true rfl⟩ dX0_putNumber_12 ?_
    refine r_weak C [some (.inr 122), none, some (.inl x11)] ⟨rfl, ⟨rfl, trivial⟩⟩ ?_
    exact L15 _ _ h
set_option maxHeartbeats 4000000 in
set_option maxRecDepth 100000 in
theorem mX0_write {l : Launch} {D : va_G} {ad : Nat → Nat} {cy : Nat → ClassId} (hl : l.stackTraces = false) (hI : Inj ad)   {σ τ : Mem} {a2 : Int32} (h : fX0_write σ a2 = some τ) : Co l D ad cy yX0_write cX0_write 4 (Option.none : Option Jvm.ClassFile.FieldType) 3 143 0 [.ref (ad 122), .ref (ad 1), .int a2] σ (zv) τ := by
  refine co_of (av := [.inr 122, .inr 1, .inl a2]) hl hI (by decide +kernel) (Nat.le_of_ble_eq_true rfl) [some (.inr 122), some (.inr 1), some (.inl a2), none] rfl (fun V C => ?_)
  have C : Rl l D ad cy RX0 cX0_write 4 (Option.none : Option Jvm.ClassFile.FieldType) 3 143 0 (zv) τ V := C
  have L20 : ∀ (n : Nat) (σ : Mem) (l2 l3 : Int32), fX0_write_L20  n σ l2 l3 = some τ → V 0 σ 20 [some (.inr 122), some (.inr 1), some (.inl l2), some (.inl l3)] [] := by
    intro n20
    induction n20 with
    | zero => intro σ l2 l3 h; exact no_e h
    | succ n20 ih20 =>
      have L45 : ∀ (σ : Mem) (l2 l3 : Int32), fX0_write_L45 (fX0_write_L20  n20)  σ l2 l3 = some τ → V 0 σ 45 [some (.inr 122), some (.inr 1), some (.inl l2), some (.inl l3)] [] := by
        intro  σ l2 l3 h
        refine r_iinc C ic_1 (by decide) dX0_write_45 rfl ?_
        refine r_goto C (tgt := 20) (by decide) dX0_write_48 ?_
        exact ih20 _ _ _ h
      intro σ l2 l3 h
      have h : fX0_write_B20  (fX0_write_L20  n20) σ l2 l3 = some τ := h
      refine r_iload_n C dX0_write_20 rfl ?_
      refine r_aload_n C dX0_write_21 rfl ?_
      refine r_getI C ck_4 f_1_7 (by decide) fl_X0_29 rfl dX0_write_22 ?_
      refine r_ic_ge C (tgt := 51) h (by decide) dX0_write_25 (fun hc h => ?_) (fun hc h => ?_)
      · refine r_aload_n C dX0_write_51 rfl ?_
        refine r_bipush C bp_58 dX0_write_52 ?_
        refine bv_e h (fun σ19 hf19 h => ?_)
        refine r_callVv C g_X0_put hc_0 o_122 ml_X0_25 (mX0_put hl hI  hf19) rfl rfl (by exact Nat.le_of_ble_eq_true rfl) ⟨Nat.le_of_ble_eq_true rfl, Nat.le_of_ble_eq_true rfl, Nat.le_of_ble_eq_true rfl⟩ dX0_write_54 ?_
        refine r_aload_n C dX0_write_57 rfl ?_
        refine r_aload_n C dX0_write_58 rfl ?_
        refine r_getR C ck_4 f_1_4 (by decide) fl_X0_36 rfl dX0_write_59 ?_
        refine r_iload_n C dX0_write_62 rfl ?_
        obtain ⟨hi, h⟩ := ck_e h
        refine r_iald C i_6 hi dX0_write_63 ?_
        refine bv_e h (fun σ20 hf20 h => ?_)
        refine r_callVv C g_X0_putNumber hc_0 o_122 ml_X0_39 (mX0_putNumber hl hI  hf20) rfl rfl (by exact Nat.le_of_ble_eq_true rfl) ⟨Nat.le_of_ble_eq_true rfl, Nat.le_of_ble_eq_true rfl, Nat.le_of_ble_eq_true rfl⟩ dX0_write_64 ?_
        refine r_aload_n C dX0_write_67 rfl ?_
        refine r_bipush C bp_42 dX0_write_68 ?_
        refine bv_e h (fun σ21 hf21 h => ?_)
        refine r_callVv C g_X0_put hc_0 o_122 ml_X0_25 (mX0_put hl hI  hf21) rfl rfl (by exact Nat.le_of_ble_eq_true rfl) ⟨Nat.le_of_ble_eq_true rfl, Nat.le_of_ble_eq_true rfl, Nat.le_of_ble_eq_true rfl⟩ dX0_write_70 ?_
        refine r_aload_n C dX0_write_73 rfl ?_
        refine r_aload_n C dX0_write_74 rfl ?_
        refine r_getR C ck_4 f_1_5 (by decide) fl_X0_42 rfl dX0_write_75 ?_
        refine r_iload_n C dX0_write_78 rfl ?_
        obtain ⟨hi, h⟩ := ck_e h
        refine r_iald C i_7 hi dX0_write_79 ?_
        refine bv_e h (fun σ22 hf22 h => ?_)
        refine r_callVv C g_X0_putNumber hc_0 o_122 ml_X0_39 (mX0_putNumber hl hI  hf22) rfl rfl (by exact Nat.le_of_ble_eq_true rfl) ⟨Nat.le_of_ble_eq_true rfl, Nat.le_of_ble_eq_true rfl, Nat.le_of_ble_eq_true rfl⟩ dX0_write_80 ?_
        refine r_aload_n C dX0_write_83 rfl ?_
        refine r_bipush C bp_59 dX0_write_84 ?_
        refine bv_e h (fun σ23 hf23 h => ?_)
        refine r_callVv C g_X0_put hc_0 o_122 ml_X0_25 (mX0_put hl hI  hf23) rfl rfl (by exact Nat.le_of_ble_eq_true rfl) ⟨Nat.le_of_ble_eq_true rfl, Nat.le_of_ble_eq_true rfl, Nat.le_of_ble_eq_true rfl⟩ dX0_write_86 ?_
        exact r_vret C rfl (Nat.le_of_ble_eq_true rfl) dX0_write_89 (re_v h)
      · refine r_aload_n C dX0_write_28 rfl ?_
        refine r_iload_n C dX0_write_29 rfl ?_
        refine r_iload_n C dX0_write_30 rfl ?_
        refine bd_e h (fun v24 σ24 hf24 h => ?_)
        refine r_callVi C g_X4_isMember hc_4 o_1 ml_X0_32 (mX4_isMember hl hI  hf24) rfl rfl (by exact Nat.le_of_ble_eq_true rfl) ⟨Nat.le_of_ble_eq_true rfl, Nat.le_of_ble_eq_true rfl, Nat.le_of_ble_eq_true rfl⟩ dX0_write_31 ?_
        refine r_if_eq C (tgt := 45) h (by decide) dX0_write_34 (fun hc h => ?_) (fun hc h => ?_)
        · exact L45 _ _ _ h
        · refine r_aload_n C dX0_write_37 rfl ?_
          refine r_bipush C bp_48 dX0_write_38 ?_
          refine r_iload_n C dX0_write_40 rfl ?_
          refine r_iadd C dX0_write_41 ?_
          refine bv_e h (fun σ25 hf25 h => ?_)
          refine r_callVv C g_X0_put hc_0 o_122 ml_X0_25 (mX0_put hl hI  hf25) rfl rfl (by exact Nat.le_of_ble_eq_true rfl) ⟨Nat.le_of_ble_eq_true rfl, Nat.le_of_ble_eq_true rfl, Nat.le_of_ble_eq_true rfl⟩ dX0_write_42 ?_
          exact L45 _ _ _ h
  refine r_aload_n C dX0_write_0 rfl ?_
  refine r_iconst C ic_0 dX0_write_1 ?_
  refine r_putI C ck_0 f_122_1 (by decide) fl_X0_15 rfl rfl rfl rfl rfl dX0_write_2 h (fun σ26 h => ?_)
  refine r_aload_n C dX0_write_5 rfl ?_
  refine r_bipush C bp_97 dX0_write_6 ?_
  refine r_aload_n C dX0_write_8 rfl ?_
  refine r_getR C ck_4 f_1_2 (by decide) fl_X0_19 rfl dX0_write_9 ?_
  refine r_iload_n C dX0_write_12 rfl ?_
  obtain ⟨hi, h⟩ := ck_e h
  refine r_iald C i_4 hi dX0_write_13 ?_
  refine r_iadd C dX0_write_14 ?_
  refine bv_e h (fun σ27 hf27 h => ?_)
  refine r_callVv C g_X0_put hc_0 o_122 ml_X0_25 (mX0_put hl hI  hf27) rfl rfl (by exact Nat.le_of_ble_eq_true rfl) ⟨Nat.le_of_ble_eq_true rfl, Nat.le_of_ble_eq_true rfl, Nat.le_of_ble_eq_true rfl⟩ dX0_write_15 ?_
  refine r_iconst C ic_0 dX0_write_18 ?_
  refine r_istore_n C (by decide) dX0_write_19 ?_
  exact L20 FU _ _ _ h
set_option maxHeartbeats 4000000 in
set_option maxRecDepth 100000 in
theorem mX1_bringBack {l : Launch} {D : va_G} {ad : Nat → Nat} {cy : Nat → ClassId} (hl : l.stackTraces = false) (hI : Inj ad)   {σ τ : Mem} (h : fX1_bringBack σ = some τ) : Co l D ad cy yX1_bringBack cX1_bringBack 2 (Option.none : Option Jvm.ClassFile.FieldType) 2 121 0 [.ref (ad 81), .ref (ad 1)] σ (zv) τ := by
  refine co_of (av := [.inr 81, .inr 1]) hl hI (by decide +kernel) (Nat.le_of_ble_eq_true rfl) [some (.inr 81), some (.inr 1)] rfl (fun V C => ?_)
  have C : Rl l D ad cy RX1 cX1_bringBack 2 (Option.none : Option Jvm.ClassFile.FieldType) 2 121 0 (zv) τ V := C
  refine r_aload_n C dX1_bringBack_0 rfl ?_
  refine r_dup C rfl dX1_bringBack_1 ?_
  refine r_getI C ck_1 f_81_2 (by decide) fl_X1_21 rfl dX1_bringBack_2 ?_
  refine r_iconst C ic_1 dX1_bringBack_5 ?_
  refine r_isub C dX1_bringBack_6 ?_
  refine r_putI C ck_1 f_81_2 (by decide) fl_X1_21 rfl rfl rfl rfl rfl dX1_bringBack_7 h (fun σ7 h => ?_)
  refine r_aload_n C dX1_bringBack_10 rfl ?_
  refine r_aload_n C dX1_bringBack_11 rfl ?_
  refine r_getR C ck_1 f_81_0 (by decide) fl_X1_11 rfl dX1_bringBack_12 ?_
  refine r_aload_n C dX1_bringBack_15 rfl ?_
  refine r_getI C ck_1 f_81_1 (by decide) fl_X1_17 rfl dX1_bringBack_16 ?_
  refine r_aload_n C dX1_bringBack_19 rfl ?_
  refine r_getI C ck_1 f_81_2 (by decide) fl_X1_21 rfl dX1_bringBack_20 ?_
  refine r_iadd C dX1_bringBack_23 ?_
  refine r_bipush C bp_8 dX1_bringBack_24 ?_
  refine r_irem C dX1_bringBack_26 (by decide) ?_
  obtain ⟨ha8, h⟩ := ck_e h
  refine r_orald C _ a_82 ha8 rfl dX1_bringBack_27 ?_
  refine bv_e h (fun σ9 hf9 h => ?_)
  refine r_callVv C g_X4_copyFrom hc_4 o_1 ml_X1_25 (mX4_copyFrom hl hI (⟨0, by decide, rfl⟩ : isP 1) (row_82 ha8) hf9) rfl rfl (by exact Nat.le_of_ble_eq_true rfl) ⟨Nat.le_of_ble_eq_true rfl, Nat.le_of_ble_eq_true rfl, Nat.le_of_ble_eq_true rfl⟩ dX1_bringBack_28 ?_
  exact r_vret C rfl (Nat.le_of_ble_eq_true rfl) dX1_bringBack_31 (re_v h)
