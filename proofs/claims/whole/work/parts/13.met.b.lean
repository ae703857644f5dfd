set_option maxHeartbeats 4000000 in
set_option maxRecDepth 100000 in
theorem mX6_forget {l : Launch} {D : va_G} {ad : Nat → Nat} {cy : Nat → ClassId} (hl : l.stackTraces = false) (hI : Inj ad)   {σ τ : Mem} (h : fX6_forget σ = some τ) : Co l D ad cy yX6_forget cX6_forget 1 (Option.none : Option Jvm.ClassFile.FieldType) 1 100 0 [.ref (ad 104)] σ (zv) τ := by
  refine co_of (av := [.inr 104]) hl hI (by decide +kernel) (Nat.le_of_ble_eq_true rfl) [some (.inr 104)] rfl (fun V C => ?_)
  have C : Rl l D ad cy RX6 cX6_forget 1 (Option.none : Option Jvm.ClassFile.FieldType) 1 100 0 (zv) τ V := C
  refine r_aload_n C dX6_forget_0 rfl ?_
  refine r_iconst C ic_0 dX6_forget_1 ?_
  refine r_putI C ck_6 f_104_2 (by decide) fl_X6_20 rfl rfl rfl rfl rfl dX6_forget_2 h (fun σ3 h => ?_)
  exact r_vret C rfl (Nat.le_of_ble_eq_true rfl) dX6_forget_5 (re_v h)
set_option maxHeartbeats 4000000 in
set_option maxRecDepth 100000 in
theorem mX3_put {l : Launch} {D : va_G} {ad : Nat → Nat} {cy : Nat → ClassId} (hl : l.stackTraces = false) (hI : Inj ad)   {σ τ : Mem} {a1 a2 a3 a4 : Int32} (h : fX3_put σ a1 a2 a3 a4 = some τ) : Co l D ad cy yX3_put cX3_put 5 (Option.none : Option Jvm.ClassFile.FieldType) 1 100 0 [.ref (ad 98), .int a1, .int a2, .int a3, .int a4] σ (zv) τ := by
  refine co_of (av := [.inr 98, .inl a1, .inl a2, .inl a3, .inl a4]) hl hI (by decide +kernel) (Nat.le_of_ble_eq_true rfl) [some (.inr 98), some (.inl a1), some (.inl a2), some (.inl a3), some (.inl a4)] rfl (fun V C => ?_)
  have C : Rl l D ad cy RX3 cX3_put 5 (Option.none : Option Jvm.ClassFile.FieldType) 1 100 0 (zv) τ V := C
  refine r_aload_n C dX3_put_0 rfl ?_
  refine r_getI C ck_3 f_98_1 (by decide) fl_X3_16 rfl dX3_put_1 ?_
  refine r_sipush C sp_375 dX3_put_4 ?_
  refine r_ic_ge C (tgt := 69) h (by decide) dX3_put_7 (fun hc h => ?_) (fun hc h => ?_)
  · exact r_vret C rfl (Nat.le_of_ble_eq_true rfl) dX3_put_69 (re_v h)
  · refine r_aload_n C dX3_put_10 rfl ?_
    refine r_getR C ck_3 f_98_0 (by decide) fl_X3_11 rfl dX3_put_11 ?_
    refine r_iconst C ic_0 dX3_put_14 ?_
    refine r_rrald C 100 a_99 (show ¬ ((0 : Int32) < 0 ∨ 4 ≤ (0 : Int32).toNatClampNeg) by decide) (by decide) dX3_put_15 ?_
    refine r_aload_n C dX3_put_16 rfl ?_
    refine r_getI C ck_3 f_98_1 (by decide) fl_X3_16 rfl dX3_put_17 ?_
    refine r_iload_n C dX3_put_20 rfl ?_
    obtain ⟨hi, h⟩ := ck_e h
    refine r_iast C i_100 hi dX3_put_21 h (fun σ11 h => ?_)
    refine r_aload_n C dX3_put_22 rfl ?_
    refine r_getR C ck_3 f_98_0 (by decide) fl_X3_11 rfl dX3_put_23 ?_
    refine r_iconst C ic_1 dX3_put_26 ?_
    refine r_rrald C 101 a_99 (show ¬ ((1 : Int32) < 0 ∨ 4 ≤ (1 : Int32).toNatClampNeg) by decide) (by decide) dX3_put_27 ?_
    refine r_aload_n C dX3_put_28 rfl ?_
    refine r_getI C ck_3 f_98_1 (by decide) fl_X3_16 rfl dX3_put_29 ?_
    refine r_iload_n C dX3_put_32 rfl ?_
    obtain ⟨hi, h⟩ := ck_e h
    refine r_iast C i_101 hi dX3_put_33 h (fun σ12 h => ?_)
    refine r_aload_n C dX3_put_34 rfl ?_
    refine r_getR C ck_3 f_98_0 (by decide) fl_X3_11 rfl dX3_put_35 ?_
    refine r_iconst C ic_2 dX3_put_38 ?_
    refine r_rrald C 102 a_99 (show ¬ ((2 : Int32) < 0 ∨ 4 ≤ (2 : Int32).toNatClampNeg) by decide) (by decide) dX3_put_39 ?_
    refine r_aload_n C dX3_put_40 rfl ?_
    refine r_getI C ck_3 f_98_1 (by decide) fl_X3_16 rfl dX3_put_41 ?_
    refine r_iload_n C dX3_put_44 rfl ?_
    obtain ⟨hi, h⟩ := ck_e h
    refine r_iast C i_102 hi dX3_put_45 h (fun σ13 h => ?_)
    refine r_aload_n C dX3_put_46 rfl ?_
    refine r_getR C ck_3 f_98_0 (by decide) fl_X3_11 rfl dX3_put_47 ?_
    refine r_iconst C ic_3 dX3_put_50 ?_
    refine r_rrald C 103 a_99 (show ¬ ((3 : Int32) < 0 ∨ 4 ≤ (3 : Int32).toNatClampNeg) by decide) (by decide) dX3_put_51 ?_
    refine r_aload_n C dX3_put_52 rfl ?_
    refine r_getI C ck_3 f_98_1 (by decide) fl_X3_16 rfl dX3_put_53 ?_
    refine r_iload C dX3_put_56 rfl ?_
    obtain ⟨hi, h⟩ := ck_e h
    refine r_iast C i_103 hi dX3_put_58 h (fun σ14 h => ?_)
    refine r_aload_n C dX3_put_59 rfl ?_
    refine r_dup C rfl dX3_put_60 ?_
    refine r_getI C ck_3 f_98_1 (by decide) fl_X3_16 rfl dX3_put_61 ?_
    refine r_iconst C ic_1 dX3_put_64 ?_
    refine r_iadd C dX3_put_65 ?_
    refine r_putI C ck_3 f_98_1 (by decide) fl_X3_16 rfl rfl rfl rfl rfl dX3_put_66 h (fun σ15 h => ?_)
    exact r_vret C rfl (Nat.le_of_ble_eq_true rfl) dX3_put_69 (re_v h)
set_option maxHeartbeats 4000000 in
set_option maxRecDepth 100000 in
theorem mX3_putSets {l : Launch} {D : va_G} {ad : Nat → Nat} {cy : Nat → ClassId} (hl : l.stackTraces = false) (hI : Inj ad)   {σ τ : Mem} (h : fX3_putSets σ = some τ) : Co l D ad cy yX3_putSets cX3_putSets 4 (Option.none : Option Jvm.ClassFile.FieldType) 2 124 0 [.ref (ad 98), .ref (ad 1)] σ (zv) τ := by
  refine co_of (av := [.inr 98, .inr 1]) hl hI (by decide +kernel) (Nat.le_of_ble_eq_true rfl) [some (.inr 98), some (.inr 1), none, none] rfl (fun V C => ?_)
  have C : Rl l D ad cy RX3 cX3_putSets 4 (Option.none : Option Jvm.ClassFile.FieldType) 2 124 0 (zv) τ V := C
  have L2 : ∀ (n : Nat) (σ : Mem) (l2 : Int32), fX3_putSets_L2  n σ l2 = some τ → V 0 σ 2 [some (.inr 98), some (.inr 1), some (.inl l2), none] [] := by
    intro n2
    induction n2 with
    | zero => intro σ l2 h; exact no_e h
    | succ n2 ih2 =>
      have L12 : ∀ (n : Nat) (σ : Mem) (l2 l3 : Int32), fX3_putSets_L12 (fX3_putSets_L2  n2) n σ l2 l3 = some τ → V 0 σ 12 [some (.inr 98), some (.inr 1), some (.inl l2), some (.inl l3)] [] := by
        intro n12
        induction n12 with
        | zero => intro σ l2 l3 h; exact no_e h
        | succ n12 ih12 =>
          have L40 : ∀ (σ : Mem) (l2 l3 : Int32), fX3_putSets_L40 (fX3_putSets_L2  n2) (fX3_putSets_L12 (fX3_putSets_L2  n2) n12)  σ l2 l3 = some τ → V 0 σ 40 [some (.inr 98), some (.inr 1), some (.inl l2), some (.inl l3)] [] := by
            intro  σ l2 l3 h
            refine r_iinc C ic_1 (by decide) dX3_putSets_40 rfl ?_
            refine r_goto C (tgt := 12) (by decide) dX3_putSets_43 ?_
            exact ih12 _ _ _ h
          intro σ l2 l3 h
          have h : fX3_putSets_B12 (fX3_putSets_L2  n2) (fX3_putSets_L12 (fX3_putSets_L2  n2) n12) σ l2 l3 = some τ := h
          refine r_iload_n C dX3_putSets_12 rfl ?_
          refine r_aload_n C dX3_putSets_13 rfl ?_
          refine r_getR C ck_4 f_1_0 (by decide) fl_X3_38 rfl dX3_putSets_14 ?_
          refine r_iload_n C dX3_putSets_17 rfl ?_
          obtain ⟨hi, h⟩ := ck_e h
          refine r_iald C i_2 hi dX3_putSets_18 ?_
          refine r_ic_ge C (tgt := 46) h (by decide) dX3_putSets_19 (fun hc h => ?_) (fun hc h => ?_)
          · refine r_iinc C ic_1 (by decide) dX3_putSets_46 rfl ?_
            refine r_goto C (tgt := 2) (by decide) dX3_putSets_49 ?_
            refine r_weak C [some (.inr 98), some (.inr 1), some (.inl (l2 + (1 : Int32))), none] ⟨rfl, ⟨rfl, ⟨rfl, trivial⟩⟩⟩ ?_
            exact ih2 _ _ h
          · refine r_iload_n C dX3_putSets_22 rfl ?_
            refine r_aload_n C dX3_putSets_23 rfl ?_
            refine r_getR C ck_4 f_1_1 (by decide) fl_X3_42 rfl dX3_putSets_24 ?_
            refine r_iload_n C dX3_putSets_27 rfl ?_
            obtain ⟨hi, h⟩ := ck_e h
            refine r_iald C i_3 hi dX3_putSets_28 ?_
            refine r_ic_eq C (tgt := 40) h (by decide) dX3_putSets_29 (fun hc h => ?_) (fun hc h => ?_)
            · exact L40 _ _ _ h
            · refine r_aload_n C dX3_putSets_32 rfl ?_
              refine r_iconst C ic_0 dX3_putSets_33 ?_
              refine r_iload_n C dX3_putSets_34 rfl ?_
              refine r_iload_n C dX3_putSets_35 rfl ?_
              refine r_iconst C ic_m1 dX3_putSets_36 ?_
              refine bv_e h (fun σ3 hf3 h => ?_)
              refine r_callVv C g_X3_put hc_3 o_98 ml_X3_45 (mX3_put hl hI  hf3) rfl rfl (by exact Nat.le_of_ble_eq_true rfl) ⟨Nat.le_of_ble_eq_true rfl, Nat.le_of_ble_eq_true rfl, Nat.le_of_ble_eq_true rfl⟩ dX3_putSets_37 ?_
              exact L40 _ _ _ h
      intro σ l2 h
      have h : fX3_putSets_B2  (fX3_putSets_L2  n2) σ l2 = some τ := h
      refine r_iload_n C dX3_putSets_2 rfl ?_
      refine r_aload_n C dX3_putSets_3 rfl ?_
      refine r_getI C ck_4 f_1_7 (by decide) fl_X3_33 rfl dX3_putSets_4 ?_
      refine r_ic_ge C (tgt := 52) h (by decide) dX3_putSets_7 (fun hc h => ?_) (fun hc h => ?_)
      · exact r_vret C rfl (Nat.le_of_ble_eq_true rfl) dX3_putSets_52 (re_v h)
      · refine r_iconst C ic_0 dX3_putSets_10 ?_
        refine r_istore_n C (by decide) dX3_putSets_11 ?_
        exact L12 FU _ _ _ h
  refine r_iconst C ic_0 dX3_putSets_0 ?_
  refine r_istore_n C (by decide) dX3_putSets_1 ?_
  exact L2 FU _ _ h
set_option maxHeartbeats 4000000 in
set_option maxRecDepth 100000 in
theorem mX3_fits {l : Launch} {D : va_G} {ad : Nat → Nat} {cy : Nat → ClassId} (hl : l.stackTraces = false) (hI : Inj ad)   {σ τ : Mem} {a1 a2 : Int32} {r : Int32} (h : fX3_fits σ a1 a2 = some (r, τ)) : Co l D ad cy yX3_fits cX3_fits 3 (Option.some Jvm.ClassFile.FieldType.boolean) 1 100 0 [.ref (ad 1), .int a1, .int a2] σ (zi r) τ := by
  refine co_of (av := [.inr 1, .inl a1, .inl a2]) hl hI (by decide +kernel) (Nat.le_of_ble_eq_true rfl) [some (.inr 1), some (.inl a1), some (.inl a2)] rfl (fun V C => ?_)
  have C : Rl l D ad cy RX3 cX3_fits 3 (Option.some Jvm.ClassFile.FieldType.boolean) 1 100 0 (zi r) τ V := C
  refine r_aload_n C dX3_fits_0 rfl ?_
  refine r_getR C ck_4 f_1_1 (by decide) fl_X3_42 rfl dX3_fits_1 ?_
  refine r_iload_n C dX3_fits_4 rfl ?_
  obtain ⟨hi, h⟩ := ck_e h
  refine r_iald C i_3 hi dX3_fits_5 ?_
  refine r_aload_n C dX3_fits_6 rfl ?_
  refine r_getR C ck_4 f_1_0 (by decide) fl_X3_38 rfl dX3_fits_7 ?_
  refine r_iload_n C dX3_fits_10 rfl ?_
  obtain ⟨hi, h⟩ := ck_e h
  refine r_iald C i_2 hi dX3_fits_11 ?_
  refine r_ic_ge C (tgt := 19) h (by decide) dX3_fits_12 (fun hc h => ?_) (fun hc h => ?_)
  · refine r_iconst C ic_0 dX3_fits_19 ?_
    exact r_zret C rfl (Nat.le_of_ble_eq_true rfl) (Or.inl rfl) dX3_fits_20 (re_i h)
  · refine r_iconst C ic_1 dX3_fits_15 ?_
    refine r_goto C (tgt := 20) (by decide) dX3_fits_16 ?_
    exact r_zret C rfl (Nat.le_of_ble_eq_true rfl) (Or.inr rfl) dX3_fits_20 (re_i h)
set_option maxHeartbeats 4000000 in
set_option maxRecDepth 100000 in
theorem mX3_putSwaps {l : Launch} {D : va_G} {ad : Nat → Nat} {cy : Nat → ClassId} (hl : l.stackTraces = false) (hI : Inj ad)   {σ τ : Mem} (h : fX3_putSwaps σ = some τ) : Co l D ad cy yX3_putSwaps cX3_putSwaps 4 (Option.none : Option Jvm.ClassFile.FieldType) 2 124 0 [.ref (ad 98), .ref (ad 1)] σ (zv) τ := by
  refine co_of (av := [.inr 98, .inr 1]) hl hI (by decide +kernel) (Nat.le_of_ble_eq_true rfl) [some (.inr 98), some (.inr 1), none, none] rfl (fun V C => ?_)
  have C : Rl l D ad cy RX3 cX3_putSwaps 4 (Option.none : Option Jvm.ClassFile.FieldType) 2 124 0 (zv) τ V := C
  have L2 : ∀ (n : Nat) (σ : Mem) (l2 : Int32), fX3_putSwaps_L2  n σ l2 = some τ → V 0 σ 2 [some (.inr 98), some (.inr 1), some (.inl l2), none] [] := by
    intro n2
    induction n2 with
    | zero => intro σ l2 h; exact no_e h
    | succ n2 ih2 =>
      have L14 : ∀ (n : Nat) (σ : Mem) (l2 l3 : Int32), fX3_putSwaps_L14 (fX3_putSwaps_L2  n2) n σ l2 l3 = some τ → V 0 σ 14 [some (.inr 98), some (.inr 1), some (.inl l2), some (.inl l3)] [] := by
        intro n14
        induction n14 with
        | zero => intro σ l2 l3 h; exact no_e h
        | succ n14 ih14 =>
          have L63 : ∀ (σ : Mem) (l2 l3 : Int32), fX3_putSwaps_L63 (fX3_putSwaps_L2  n2) (fX3_putSwaps_L14 (fX3_putSwaps_L2  n2) n14)  σ l2 l3 = some τ → V 0 σ 63 [some (.inr 98), some (.inr 1), some (.inl l2), some (.inl l3)] [] := by
            intro  σ l2 l3 h
            refine r_iinc C ic_1 (by decide) dX3_putSwaps_63 rfl ?_
            refine r_goto C (tgt := 14) (by decide) dX3_putSwaps_66 ?_
            exact ih14 _ _ _ h
          intro σ l2 l3 h
          have h : fX3_putSwaps_B14 (fX3_putSwaps_L2  n2) (fX3_putSwaps_L14 (fX3_putSwaps_L2  n2) n14) σ l2 l3 = some τ := h
          refine r_iload_n C dX3_putSwaps_14 rfl ?_
          refine r_aload_n C dX3_putSwaps_15 rfl ?_
          refine r_getI C ck_4 f_1_7 (by decide) fl_X3_33 rfl dX3_putSwaps_16 ?_
          refine r_ic_ge C (tgt := 69) h (by decide) dX3_putSwaps_19 (fun hc h => ?_) (fun hc h => ?_)
          · refine r_iinc C ic_1 (by decide) dX3_putSwaps_69 rfl ?_
            refine r_goto C (tgt := 2) (by decide) dX3_putSwaps_72 ?_
            refine r_weak C [some (.inr 98), some (.inr 1), some (.inl (l2 + (1 : Int32))), none] ⟨rfl, ⟨rfl, ⟨rfl, trivial⟩⟩⟩ ?_
            exact ih2 _ _ h
          · refine r_aload_n C dX3_putSwaps_22 rfl ?_
            refine r_getR C ck_4 f_1_1 (by decide) fl_X3_42 rfl dX3_putSwaps_23 ?_
            refine r_iload_n C dX3_putSwaps_26 rfl ?_
            obtain ⟨hi, h⟩ := ck_e h
            refine r_iald C i_3 hi dX3_putSwaps_27 ?_
            refine r_aload_n C dX3_putSwaps_28 rfl ?_
            refine r_getR C ck_4 f_1_1 (by decide) fl_X3_42 rfl dX3_putSwaps_29 ?_
            refine r_iload_n C dX3_putSwaps_32 rfl ?_
            obtain ⟨hi, h⟩ := ck_e h
            refine r_iald C i_3 hi dX3_putSwaps_33 ?_
            refine r_ic_eq C (tgt := 63) h (by decide) dX3_putSwaps_34 (fun hc h => ?_) (fun hc h => ?_)
            · exact L63 _ _ _ h
            · refine r_aload_n C dX3_putSwaps_37 rfl ?_
              refine r_iload_n C dX3_putSwaps_38 rfl ?_
              refine r_iload_n C dX3_putSwaps_39 rfl ?_
              refine bd_e h (fun v7 σ7 hf7 h => ?_)
              refine r_callSi C g_X3_fits ml_X3_49 (mX3_fits hl hI  hf7) rfl rfl (by exact Nat.le_of_ble_eq_true rfl) ⟨Nat.le_of_ble_eq_true rfl, Nat.le_of_ble_eq_true rfl, Nat.le_of_ble_eq_true rfl⟩ dX3_putSwaps_40 ?_
              refine r_if_eq C (tgt := 63) h (by decide) dX3_putSwaps_43 (fun hc h => ?_) (fun hc h => ?_)
              · exact L63 _ _ _ h
              · refine r_aload_n C dX3_putSwaps_46 rfl ?_
                refine r_iload_n C dX3_putSwaps_47 rfl ?_
                refine r_iload_n C dX3_putSwaps_48 rfl ?_
                refine bd_e h (fun v8 σ8 hf8 h => ?_)
                refine r_callSi C g_X3_fits ml_X3_49 (mX3_fits hl hI  hf8) rfl rfl (by exact Nat.le_of_ble_eq_true rfl) ⟨Nat.le_of_ble_eq_true rfl, Nat.le_of_ble_eq_true rfl, Nat.le_of_ble_eq_true rfl⟩ dX3_putSwaps_49 ?_
                refine r_if_eq C (tgt := 63) h (by decide) dX3_putSwaps_52 (fun hc h => ?_) (fun hc h => ?_)
                · exact L63 _ _ _ h
                · refine r_aload_n C dX3_putSwaps_55 rfl ?_
                  refine r_iconst C ic_1 dX3_putSwaps_56 ?_
                  refine r_iload_n C dX3_putSwaps_57 rfl ?_
                  refine r_iload_n C dX3_putSwaps_58 rfl ?_
                  refine r_iconst C ic_m1 dX3_putSwaps_59 ?_
                  refine bv_e h (fun σ9 hf9 h => ?_)
                  refine r_callVv C g_X3_put hc_3 o_98 ml_X3_45 (mX3_put hl hI  hf9) rfl rfl (by exact Nat.le_of_ble_eq_true rfl) ⟨Nat.le_of_ble_eq_true rfl, Nat.le_of_ble_eq_true rfl, Nat.le_of_ble_eq_true rfl⟩ dX3_putSwaps_60 ?_
                  exact L63 _ _ _ h
      intro σ l2 h
      have h : fX3_putSwaps_B2  (fX3_putSwaps_L2  n2) σ l2 = some τ := h
      refine r_iload_n C dX3_putSwaps_2 rfl ?_
      refine r_aload_n C dX3_putSwaps_3 rfl ?_
      refine r_getI C ck_4 f_1_7 (by decide) fl_X3_33 rfl dX3_putSwaps_4 ?_
      refine r_ic_ge C (tgt := 75) h (by decide) dX3_putSwaps_7 (fun hc h => ?_) (fun hc h => ?_)
      · exact r_vret C rfl (Nat.le_of_ble_eq_true rfl) dX3_putSwaps_75 (re_v h)
      · refine r_iload_n C dX3_putSwaps_10 rfl ?_
        refine r_iconst C ic_1 dX3_putSwaps_11 ?_
        refine r_iadd C dX3_putSwaps_12 ?_
        refine r_istore_n C (by decide) dX3_putSwaps_13 ?_
        exact L14 FU _ _ _ h
  refine r_iconst C ic_0 dX3_putSwaps_0 ?_
  refine r_istore_n C (by decide) dX3_putSwaps_1 ?_
  exact L2 FU _ _ h
set_option maxHeartbeats 4000000 in
set_option maxRecDepth 100000 in
theorem mX3_putShifts {l : Launch} {D : va_G} {ad : Nat → Nat} {cy : Nat → ClassId} (hl : l.stackTraces = false) (hI : Inj ad)   {σ τ : Mem} (h : fX3_putShifts σ = some τ) : Co l D ad cy yX3_putShifts cX3_putShifts 3 (Option.none : Option Jvm.ClassFile.FieldType) 2 124 0 [.ref (ad 98), .ref (ad 1)] σ (zv) τ := by
  refine co_of (av := [.inr 98, .inr 1]) hl hI (by decide +kernel) (Nat.le_of_ble_eq_true rfl) [some (.inr 98), some (.inr 1), none] rfl (fun V C => ?_)
  have C : Rl l D ad cy RX3 cX3_putShifts 3 (Option.none : Option Jvm.ClassFile.FieldType) 2 124 0 (zv) τ V := C
  have L2 : ∀ (n : Nat) (σ : Mem) (l2 : Int32), fX3_putShifts_L2  n σ l2 = some τ → V 0 σ 2 [some (.inr 98), some (.inr 1), some (.inl l2)] [] := by
    intro n2
    induction n2 with
    | zero => intro σ l2 h; exact no_e h
    | succ n2 ih2 =>
      intro σ l2 h
      have h : fX3_putShifts_B2  (fX3_putShifts_L2  n2) σ l2 = some τ := h
      refine r_iload_n C dX3_putShifts_2 rfl ?_
      refine r_aload_n C dX3_putShifts_3 rfl ?_
      refine r_getI C ck_4 f_1_7 (by decide) fl_X3_33 rfl dX3_putShifts_4 ?_
      refine r_ic_ge C (tgt := 32) h (by decide) dX3_putShifts_7 (fun hc h => ?_) (fun hc h => ?_)
      · exact r_vret C rfl (Nat.le_of_ble_eq_true rfl) dX3_putShifts_32 (re_v h)
      · refine r_aload_n C dX3_putShifts_10 rfl ?_
        refine r_iconst C ic_2 dX3_putShifts_11 ?_
        refine r_iload_n C dX3_putShifts_12 rfl ?_
        refine r_iconst C ic_0 dX3_putShifts_13 ?_
        refine r_iconst C ic_m1 dX3_putShifts_14 ?_
        refine bv_e h (fun σ5 hf5 h => ?_)
        refine r_callVv C g_X3_put hc_3 o_98 ml_X3_45 (mX3_put hl hI  hf5) rfl rfl (by exact Nat.le_of_ble_eq_true rfl) ⟨Nat.le_of_ble_eq_true rfl, Nat.le_of_ble_eq_true rfl, Nat.le_of_ble_eq_true rfl⟩ dX3_putShifts_15 ?_
        refine r_aload_n C dX3_putShifts_18 rfl ?_
        refine r_iconst C ic_2 dX3_putShifts_19 ?_
        refine r_iload_n C dX3_putShifts_20 rfl ?_
        refine r_iconst C ic_1 dX3_putShifts_21 ?_
        refine r_iconst C ic_m1 dX3_putShifts_22 ?_
        refine bv_e h (fun σ6 hf6 h => ?_)
        refine r_callVv C g_X3_put hc_3 o_98 ml_X3_45 (mX3_put hl hI  hf6) rfl rfl (by exact Nat.le_of_ble_eq_true rfl) ⟨Nat.le_of_ble_eq_true rfl, Nat.le_of_ble_eq_true rfl, Nat.le_of_ble_eq_true rfl⟩ dX3_putShifts_23 ?_
        refine r_iinc C ic_1 (by decide) dX3_putShifts_26 rfl ?_
        refine r_goto C (tgt := 2) (by decide) dX3_putShifts_29 ?_
        exact ih2 _ _ h
  refine r_iconst C ic_0 dX3_putShifts_0 ?_
  refine r_istore_n C (by decide) dX3_putShifts_1 ?_
  exact L2 FU _ _ h
set_option maxHeartbeats 4000000 in
set_option maxRecDepth 100000 in
theorem mX3_isRotation {l : Launch} {D : va_G} {ad : Nat → Nat} {cy : Nat → ClassId} (hl : l.stackTraces = false) (hI : Inj ad)   {σ τ : Mem} {a1 a2 a3 : Int32} {r : Int32} (h : fX3_isRotation σ a1 a2 a3 = some (r, τ)) : Co l D ad cy yX3_isRotation cX3_isRotation 5 (Option.some Jvm.ClassFile.FieldType.boolean) 2 122 0 [.ref (ad 1), .int a1, .int a2, .int a3] σ (zi r) τ := by
  refine co_of (av := [.inr 1, .inl a1, .inl a2, .inl a3]) hl hI (by decide +kernel) (Nat.le_of_ble_eq_true rfl) [some (.inr 1), some (.inl a1), some (.inl a2), some (.inl a3), none] rfl (fun V C => ?_)
  have C : Rl l D ad cy RX3 cX3_isRotation 5 (Option.some Jvm.ClassFile.FieldType.boolean) 2 122 0 (zi r) τ V := C
  have L73 : ∀ (σ : Mem), fX3_isRotation_L73   σ  = some (r, τ) → V 0 σ 73 [none, none, none, none, none] [] := by
    intro  σ  h
    refine r_iconst C ic_0 dX3_isRotation_73 ?_
    exact r_zret C rfl (Nat.le_of_ble_eq_true rfl) (Or.inl rfl) dX3_isRotation_74 (re_i h)
  have L35 : ∀ (σ : Mem) (l1 l2 l3 s0 : Int32), fX3_isRotation_L35   σ l1 l2 l3 s0 = some (r, τ) → V 0 σ 35 [some (.inr 1), some (.inl l1), some (.inl l2), some (.inl l3), none] [.int s0] := by
    intro  σ l1 l2 l3 s0 h
    refine r_istore C (by decide) dX3_isRotation_35 ?_
    refine r_iload C dX3_isRotation_37 rfl ?_
    refine r_if_ne C (tgt := 73) h (by decide) dX3_isRotation_39 (fun hc h => ?_) (fun hc h => ?_)
    · refine r_weak C [none, none, none, none, none] trivial ?_
      exact L73 _ h
    · refine r_aload_n C dX3_isRotation_42 rfl ?_
      refine r_iload_n C dX3_isRotation_43 rfl ?_
      refine r_iload_n C dX3_isRotation_44 rfl ?_
      refine bd_e h (fun v7 σ7 hf7 h => ?_)
      refine r_callSi C g_X3_fits ml_X3_49 (mX3_fits hl hI  hf7) rfl rfl (by exact Nat.le_of_ble_eq_true rfl) ⟨Nat.le_of_ble_eq_true rfl, Nat.le_of_ble_eq_true rfl, Nat.le_of_ble_eq_true rfl⟩ dX3_isRotation_45 ?_
      refine r_if_eq C (tgt := 73) h (by decide) dX3_isRotation_48 (fun hc h => ?_) (fun hc h => ?_)
      · refine r_weak C [none, none, none, none, none] trivial ?_
        exact L73 _ h
      · refine r_aload_n C dX3_isRotation_51 rfl ?_
        refine r_iload_n C dX3_isRotation_52 rfl ?_
        refine r_iload_n C dX3_isRotation_53 rfl ?_
        refine bd_e h (fun v8 σ8 hf8 h => ?_)
        refine r_callSi C g_X3_fits ml_X3_49 (mX3_fits hl hI  hf8) rfl rfl (by exact Nat.le_of_ble_eq_true rfl) ⟨Nat.le_of_ble_eq_true rfl, Nat.le_of_ble_eq_true rfl, Nat.le_of_ble_eq_true rfl⟩ dX3_isRotation_54 ?_
        refine r_if_eq C (tgt := 73) h (by decide) dX3_isRotation_57 (fun hc h => ?_) (fun hc h => ?_)
        · refine r_weak C [none, none, none, none, none] trivial ?_
          exact L73 _ h
        · refine r_aload_n C dX3_isRotation_60 rfl ?_
          refine r_iload_n C dX3_isRotation_61 rfl ?_
          refine r_iload_n C dX3_isRotation_62 rfl ?_
          refine bd_e h (fun v9 σ9 hf9 h => ?_)
          refine r_callSi C g_X3_fits ml_X3_49 (mX3_fits hl hI  hf9) rfl rfl (by exact Nat.le_of_ble_eq_true rfl) ⟨Nat.le_of_ble_eq_true rfl, Nat.le_of_ble_eq_true rfl, Nat.le_of_ble_eq_true rfl⟩ dX3_isRotation_63 ?_
          refine r_if_eq C (tgt := 73) h (by decide) dX3_isRotation_66 (fun hc h => ?_) (fun hc h => ?_)
          · refine r_weak C [none, none, none, none, none] trivial ?_
            exact L73 _ h
          · refine r_iconst C ic_1 dX3_isRotation_69 ?_
            refine r_goto C (tgt := 74) (by decide) dX3_isRotation_70 ?_
            exact r_zret C rfl (Nat.le_of_ble_eq_true rfl) (Or.inr rfl) dX3_isRotation_74 (re_i h)
  have L34 : ∀ (σ : Mem) (l1 l2 l3 : Int32), fX3_isRotation_L34   σ l1 l2 l3 = some (r, τ) → V 0 σ 34 [some (.inr 1), some (.inl l1), some (.inl l2), some (.inl l3), none] [] := by
    intro  σ l1 l2 l3 h
    refine r_iconst C ic_0 dX3_isRotation_34 ?_
    exact L35 _ _ _ _ _ h
  refine r_aload_n C dX3_isRotation_0 rfl ?_
  refine r_getR C ck_4 f_1_1 (by decide) fl_X3_42 rfl dX3_isRotation_1 ?_
  refine r_iload_n C dX3_isRotation_4 rfl ?_
  obtain ⟨hi, h⟩ := ck_e h
  refine r_iald C i_3 hi dX3_isRotation_5 ?_
  refine r_aload_n C dX3_isRotation_6 rfl ?_
  refine r_getR C ck_4 f_1_1 (by decide) fl_X3_42 rfl dX3_isRotation_7 ?_
  refine r_iload_n C dX3_isRotation_10 rfl ?_
  obtain ⟨hi, h⟩ := ck_e h
  refine r_iald C i_3 hi dX3_isRotation_11 ?_
  refine r_ic_ne C (tgt := 34) h (by decide) dX3_isRotation_12 (fun hc h => ?_) (fun hc h => ?_)
  · exact L34 _ _ _ _ h
  · refine r_aload_n C dX3_isRotation_15 rfl ?_
    refine r_getR C ck_4 f_1_1 (by decide) fl_X3_42 rfl dX3_isRotation_16 ?_
    refine r_iload_n C dX3_isRotation_19 rfl ?_
    obtain ⟨hi, h⟩ := ck_e h
    refine r_iald C i_3 hi dX3_isRotation_20 ?_
    refine r_aload_n C dX3_isRotation_21 rfl ?_
    refine r_getR C ck_4 f_1_1 (by decide) fl_X3_42 rfl dX3_isRotation_22 ?_
    refine r_iload_n C dX3_isRotation_25 rfl ?_
    obtain ⟨hi, h⟩ := ck_e h
    refine r_iald C i_3 hi dX3_isRotation_26 ?_
    refine r_ic_ne C (tgt := 34) h (by decide) dX3_isRotation_27 (fun hc h => ?_) (fun hc h => ?_)
    · exact L34 _ _ _ _ h
    · refine r_iconst C ic_1 dX3_isRotation_30 ?_
      refine r_goto C (tgt := 35) (by decide) dX3_isRotation_31 ?_
      exact L35 _ _ _ _ _ h
set_option maxHeartbeats 4000000 in
set_option maxRecDepth 100000 in
theorem mX3_putRotations {l : Launch} {D : va_G} {ad : Nat → Nat} {cy : Nat → ClassId} (hl : l.stackTraces = false) (hI : Inj ad)   {σ τ : Mem} (h : fX3_putRotations σ = some τ) : Co l D ad cy yX3_putRotations cX3_putRotations 5 (Option.none : Option Jvm.ClassFile.FieldType) 3 146 0 [.ref (ad 98), .ref (ad 1)] σ (zv) τ := by
  refine co_of (av := [.inr 98, .inr 1]) hl hI (by decide +kernel) (Nat.le_of_ble_eq_true rfl) [some (.inr 98), some (.inr 1), none, none, none] rfl (fun V C => ?_)
  have C : Rl l D ad cy RX3 cX3_putRotations 5 (Option.none : Option Jvm.ClassFile.FieldType) 3 146 0 (zv) τ V := C
  have L2 : ∀ (n : Nat) (σ : Mem) (l2 : Int32), fX3_putRotations_L2  n σ l2 = some τ → V 0 σ 2 [some (.inr 98), some (.inr 1), some (.inl l2), none, none] [] := by
    intro n2
    induction n2 with
    | zero => intro σ l2 h; exact no_e h
    | succ n2 ih2 =>
      have L14 : ∀ (n : Nat) (σ : Mem) (l2 l3 : Int32), fX3_putRotations_L14 (fX3_putRotations_L2  n2) n σ l2 l3 = some τ → V 0 σ 14 [some (.inr 98), some (.inr 1), some (.inl l2), some (.inl l3), none] [] := by
        intro n14
        induction n14 with
        | zero => intro σ l2 l3 h; exact no_e h
        | succ n14 ih14 =>
          have L27 : ∀ (n : Nat) (σ : Mem) (l2 l3 l4 : Int32), fX3_putRotations_L27 (fX3_putRotations_L2  n2) (fX3_putRotations_L14 (fX3_putRotations_L2  n2) n14) n σ l2 l3 l4 = some τ → V 0 σ 27 [some (.inr 98), some (.inr 1), some (.inl l2), some (.inl l3), some (.inl l4)] [] := by
            intro n27
            induction n27 with
            | zero => intro σ l2 l3 l4 h; exact no_e h
            | succ n27 ih27 =>
              have L62 : ∀ (σ : Mem) (l2 l3 l4 : Int32), fX3_putRotations_L62 (fX3_putRotations_L2  n2) (fX3_putRotations_L14 (fX3_putRotations_L2  n2) n14) (fX3_putRotations_L27 (fX3_putRotations_L2  n2) (fX3_putRotations_L14 (fX3_putRotations_L2  n2) n14) n27)  σ l2 l3 l4 = some τ → V 0 σ 62 [some (.inr 98), some (.inr 1), some (.inl l2), some (.inl l3), some (.inl l4)] [] := by
                intro  σ l2 l3 l4 h
                refine r_iinc C ic_1 (by decide) dX3_putRotations_62 rfl ?_
                refine r_goto C (tgt := 27) (by decide) dX3_putRotations_65 ?_
                exact ih27 _ _ _ _ h
              intro σ l2 l3 l4 h
              have h : fX3_putRotations_B27 (fX3_putRotations_L2  n2) (fX3_putRotations_L14 (fX3_putRotations_L2  n2) n14) (fX3_putRotations_L27 (fX3_putRotations_L2  n2) (fX3_putRotations_L14 (fX3_putRotations_L2  n2) n14) n27) σ l2 l3 l4 = some τ := h
              refine r_iload C dX3_putRotations_27 rfl ?_
              refine r_aload_n C dX3_putRotations_29 rfl ?_
              refine r_getI C ck_4 f_1_7 (by decide) fl_X3_33 rfl dX3_putRotations_30 ?_
              refine r_ic_ge C (tgt := 68) h (by decide) dX3_putRotations_33 (fun hc h => ?_) (fun hc h => ?_)
              · refine r_iinc C ic_1 (by decide) dX3_putRotations_68 rfl ?_
                refine r_goto C (tgt := 14) (by decide) dX3_putRotations_71 ?_
                refine r_weak C [some (.inr 98), some (.inr 1), some (.inl l2), some (.inl (l3 + (1 : Int32))), none] ⟨rfl, ⟨rfl, ⟨rfl, ⟨rfl, trivial⟩⟩⟩⟩ ?_
                exact ih14 _ _ _ h
              · refine r_iload_n C dX3_putRotations_36 rfl ?_
                refine r_iload C dX3_putRotations_37 rfl ?_
                refine r_ic_eq C (tgt := 62) h (by decide) dX3_putRotations_39 (fun hc h => ?_) (fun hc h => ?_)
                · exact L62 _ _ _ _ h
                · refine r_aload_n C dX3_putRotations_42 rfl ?_
                  refine r_iload_n C dX3_putRotations_43 rfl ?_
                  refine r_iload_n C dX3_putRotations_44 rfl ?_
                  refine r_iload C dX3_putRotations_45 rfl ?_
                  refine bd_e h (fun v5 σ5 hf5 h => ?_)
                  refine r_callSi C g_X3_isRotation ml_X3_53 (mX3_isRotation hl hI  hf5) rfl rfl (by exact Nat.le_of_ble_eq_true rfl) ⟨Nat.le_of_ble_eq_true rfl, Nat.le_of_ble_eq_true rfl, Nat.le_of_ble_eq_true rfl⟩ dX3_putRotations_47 ?_
                  refine r_if_eq C (tgt := 62) h (by decide) dX3_putRotations_50 (fun hc h => ?_) (fun hc h => ?_)
                  · exact L62 _ _ _ _ h
                  · refine r_aload_n C dX3_putRotations_53 rfl ?_
                    refine r_iconst C ic_3 dX3_putRotations_54 ?_
                    refine r_iload_n C dX3_putRotations_55 rfl ?_
                    refine r_iload_n C dX3_putRotations_56 rfl ?_
                    refine r_iload C dX3_putRotations_57 rfl ?_
                    refine bv_e h (fun σ6 hf6 h => ?_)
                    refine r_callVv C g_X3_put hc_3 o_98 ml_X3_45 (mX3_put hl hI  hf6) rfl rfl (by exact Nat.le_of_ble_eq_true rfl) ⟨Nat.le_of_ble_eq_true rfl, Nat.le_of_ble_eq_true rfl, Nat.le_of_ble_eq_true rfl⟩ dX3_putRotations_59 ?_
                    exact L62 _ _ _ _ h
          intro σ l2 l3 h
          have h : fX3_putRotations_B14 (fX3_putRotations_L2  n2) (fX3_putRotations_L14 (fX3_putRotations_L2  n2) n14) σ l2 l3 = some τ := h
          refine r_iload_n C dX3_putRotations_14 rfl ?_
          refine r_aload_n C dX3_putRotations_15 rfl ?_
          refine r_getI C ck_4 f_1_7 (by decide) fl_X3_33 rfl dX3_putRotations_16 ?_
          refine r_ic_ge C (tgt := 74) h (by decide) dX3_putRotations_19 (fun hc h => ?_) (fun hc h => ?_)
          · refine r_iinc C ic_1 (by decide) dX3_putRotations_74 rfl ?_
            refine r_goto C (tgt := 2) (by decide) dX3_putRotations_77 ?_
            refine r_weak C [some (.inr 98), some (.inr 1), some (.inl (l2 + (1 : Int32))), none, none] ⟨rfl, ⟨rfl, ⟨rfl, trivial⟩⟩⟩ ?_
            exact ih2 _ _ h
          · refine r_iload_n C dX3_putRotations_22 rfl ?_
            refine r_iconst C ic_1 dX3_putRotations_23 ?_
            refine r_iadd C dX3_putRotations_24 ?_
            refine r_istore C (by decide) dX3_putRotations_25 ?_
            exact L27 FU _ _ _ _ h
      intro σ l2 h
      have h : fX3_putRotations_B2  (fX3_putRotations_L2  n2) σ l2 = some τ := h
      refine r_iload_n C dX3_putRotations_2 rfl ?_
      refine r_aload_n C dX3_putRotations_3 rfl ?_
      refine r_getI C ck_4 f_1_7 (by decide) fl_X3_33 rfl dX3_putRotations_4 ?_
      refine r_ic_ge C (tgt := 80) h (by decide) dX3_putRotations_7 (fun hc h => ?_) (fun hc h => ?_)
      · exact r_vret C rfl (Nat.le_of_ble_eq_true rfl) dX3_putRotations_80 (re_v h)
      · refine r_iload_n C dX3_putRotations_10 rfl ?_
        refine r_iconst C ic_1 dX3_putRotations_11 ?_
        refine r_iadd C dX3_putRotations_12 ?_
        refine r_istore_n C (by decide) dX3_putRotations_13 ?_
        exact L14 FU _ _ _ h
  refine r_iconst C ic_0 dX3_putRotations_0 ?_
  refine r_istore_n C (by decide) dX3_putRotations_1 ?_
  exact L2 FU _ _ h
set_option maxHeartbeats 4000000 in
set_option maxRecDepth 100000 in
theorem mX3_fill {l : Launch} {D : va_G} {ad : Nat → Nat} {cy : Nat → ClassId} (hl : l.stackTraces = false) (hI : Inj ad)   {σ τ : Mem} {a2 : Int32} (h : fX3_fill σ a2 = some τ) : Co l D ad cy yX3_fill cX3_fill 3 (Option.none : Option Jvm.ClassFile.FieldType) 4 170 0 [.ref (ad 98), .ref (ad 1), .int a2] σ (zv) τ := by
  refine co_of (av := [.inr 98, .inr 1, .inl a2]) hl hI (by decide +kernel) (Nat.le_of_ble_eq_true rfl) [some (.inr 98), some (.inr 1), some (.inl a2)] rfl (fun V C => ?_)
  have C : Rl l D ad cy RX3 cX3_fill 3 (Option.none : Option Jvm.ClassFile.FieldType) 4 170 0 (zv) τ V := C
  have L44 : ∀ (σ : Mem) (l2 : Int32), fX3_fill_L44   σ l2 = some τ → V 0 σ 44 [some (.inr 98), some (.inr 1), some (.inl l2)] [] := by
    intro  σ l2 h
    refine r_iload_n C dX3_fill_44 rfl ?_
    refine r_iconst C ic_3 dX3_fill_45 ?_
    refine r_ishr C dX3_fill_46 ?_
    refine r_iconst C ic_1 dX3_fill_47 ?_
    refine r_iand C dX3_fill_48 ?_
    refine r_if_eq C (tgt := 57) h (by decide) dX3_fill_49 (fun hc h => ?_) (fun hc h => ?_)
    · exact r_vret C rfl (Nat.le_of_ble_eq_true rfl) dX3_fill_57 (re_v h)
    · refine r_aload_n C dX3_fill_52 rfl ?_
      refine r_aload_n C dX3_fill_53 rfl ?_
      refine bv_e h (fun σ11 hf11 h => ?_)
      refine r_callVv C g_X3_putRotations hc_3 o_98 ml_X3_30 (mX3_putRotations hl hI  hf11) rfl rfl (by exact Nat.le_of_ble_eq_true rfl) ⟨Nat.le_of_ble_eq_true rfl, Nat.le_of_ble_eq_true rfl, Nat.le_of_ble_eq_true rfl⟩ dX3_fill_54 ?_
      exact r_vret C rfl (Nat.le_of_ble_eq_true rfl) dX3_fill_57 (re_v h)
  have L31 : ∀ (σ : Mem) (l2 : Int32), fX3_fill_L31   σ l2 = some τ → V 0 σ 31 [some (.inr 98), some (.inr 1), some (.inl l2)] [] := by
    intro  σ l2 h
    refine r_iload_n C dX3_fill_31 rfl ?_
    refine r_iconst C ic_2 dX3_fill_32 ?_
    refine r_ishr C dX3_fill_33 ?_
    refine r_iconst C ic_1 dX3_fill_34 ?_
    refine r_iand C dX3_fill_35 ?_
    refine r_if_eq C (tgt := 44) h (by decide) dX3_fill_36 (fun hc h => ?_) (fun hc h => ?_)
    · exact L44 _ _ h
    · refine r_aload_n C dX3_fill_39 rfl ?_
      refine r_aload_n C dX3_fill_40 rfl ?_
      refine bv_e h (fun σ12 hf12 h => ?_)
      refine r_callVv C g_X3_putShifts hc_3 o_98 ml_X3_27 (mX3_putShifts hl hI  hf12) rfl rfl (by exact Nat.le_of_ble_eq_true rfl) ⟨Nat.le_of_ble_eq_true rfl, Nat.le_of_ble_eq_true rfl, Nat.le_of_ble_eq_true rfl⟩ dX3_fill_41 ?_
      exact L44 _ _ h
  have L18 : ∀ (σ : Mem) (l2 : Int32), fX3_fill_L18   σ l2 = some τ → V 0 σ 18 [some (.inr 98), some (.inr 1), some (.inl l2)] [] := by
    intro  σ l2 h
    refine r_iload_n C dX3_fill_18 rfl ?_
    refine r_iconst C ic_1 dX3_fill_19 ?_
    refine r_ishr C dX3_fill_20 ?_
    refine r_iconst C ic_1 dX3_fill_21 ?_
    refine r_iand C dX3_fill_22 ?_
    refine r_if_eq C (tgt := 31) h (by decide) dX3_fill_23 (fun hc h => ?_) (fun hc h => ?_)
    · exact L31 _ _ h
    · refine r_aload_n C dX3_fill_26 rfl ?_
      refine r_aload_n C dX3_fill_27 rfl ?_
      refine bv_e h (fun σ13 hf13 h => ?_)
      refine r_callVv C g_X3_putSwaps hc_3 o_98 ml_X3_24 (mX3_putSwaps hl hI  hf13) rfl rfl (by exact Nat.le_of_ble_eq_true rfl) ⟨Nat.le_of_ble_eq_true rfl, Nat.le_of_ble_eq_true rfl, Nat.le_of_ble_eq_true rfl⟩ dX3_fill_28 ?_
      exact L31 _ _ h
  refine r_aload_n C dX3_fill_0 rfl ?_
  refine r_iconst C ic_0 dX3_fill_1 ?_
  refine r_putI C ck_3 f_98_1 (by decide) fl_X3_16 rfl rfl rfl rfl rfl dX3_fill_2 h (fun σ14 h => ?_)
  refine r_iload_n C dX3_fill_5 rfl ?_
  refine r_iconst C ic_0 dX3_fill_6 ?_
  refine r_ishr C dX3_fill_7 ?_
  refine r_iconst C ic_1 dX3_fill_8 ?_
  refine r_iand C dX3_fill_9 ?_
  refine r_if_eq C (tgt := 18) h (by decide) dX3_fill_10 (fun hc h => ?_) (fun hc h => ?_)
  · exact L18 _ _ h
  · refine r_aload_n C dX3_fill_13 rfl ?_
    refine r_aload_n C dX3_fill_14 rfl ?_
    refine bv_e h (fun σ15 hf15 h => ?_)
    refine r_callVv C g_X3_putSets hc_3 o_98 ml_X3_20 (mX3_putSets hl hI  hf15) rfl rfl (by exact Nat.le_of_ble_eq_true rfl) ⟨Nat.le_of_ble_eq_true rfl, Nat.le_of_ble_eq_true rfl, Nat.le_of_ble_eq_true rfl⟩ dX3_fill_15 ?_
    exact L18 _ _ h
set_option maxHeartbeats 4000000 in
set_option maxRecDepth 100000 in
theorem mX3_shifted {l : Launch} {D : va_G} {ad : Nat → Nat} {cy : Nat → ClassId} (hl : l.stackTraces = false) (hI : Inj ad)   {σ τ : Mem} {a0 a1 a2 : Int32} {r : Int32} (h : fX3_shifted σ a0 a1 a2 = some (r, τ)) : Co l D ad cy yX3_shifted cX3_shifted 3 (Option.some Jvm.ClassFile.FieldType.int) 1 100 0 [.int a0, .int a1, .int a2] σ (zi r) τ := by
  refine co_of (av := [.inl a0, .inl a1, .inl a2]) hl hI (by decide +kernel) (Nat.le_of_ble_eq_true rfl) [some (.inl a0), some (.inl a1), some (.inl a2)] rfl (fun V C => ?_)
  have C : Rl l D ad cy RX3 cX3_shifted 3 (Option.some Jvm.ClassFile.FieldType.int) 1 100 0 (zi r) τ V := C
  refine r_iload_n C dX3_shifted_0 rfl ?_
  refine r_if_eq C (tgt := 19) h (by decide) dX3_shifted_1 (fun hc h => ?_) (fun hc h => ?_)
  · refine r_iload_n C dX3_shifted_19 rfl ?_
    refine r_if_ne C (tgt := 29) h (by decide) dX3_shifted_20 (fun hc h => ?_) (fun hc h => ?_)
    · refine r_iload_n C dX3_shifted_29 rfl ?_
      refine r_iconst C ic_1 dX3_shifted_30 ?_
      refine r_isub C dX3_shifted_31 ?_
      exact r_iret C rfl (Nat.le_of_ble_eq_true rfl) dX3_shifted_32 (re_i h)
    · refine r_iload_n C dX3_shifted_23 rfl ?_
      refine r_iconst C ic_1 dX3_shifted_24 ?_
      refine r_isub C dX3_shifted_25 ?_
      refine r_goto C (tgt := 32) (by decide) dX3_shifted_26 ?_
      exact r_iret C rfl (Nat.le_of_ble_eq_true rfl) dX3_shifted_32 (re_i h)
  · refine r_iload_n C dX3_shifted_4 rfl ?_
    refine r_iload_n C dX3_shifted_5 rfl ?_
    refine r_iconst C ic_1 dX3_shifted_6 ?_
    refine r_isub C dX3_shifted_7 ?_
    refine r_ic_ne C (tgt := 15) h (by decide) dX3_shifted_8 (fun hc h => ?_) (fun hc h => ?_)
    · refine r_iload_n C dX3_shifted_15 rfl ?_
      refine r_iconst C ic_1 dX3_shifted_16 ?_
      refine r_iadd C dX3_shifted_17 ?_
      exact r_iret C rfl (Nat.le_of_ble_eq_true rfl) dX3_shifted_18 (re_i h)
    · refine r_iconst C ic_0 dX3_shifted_11 ?_
      refine r_goto C (tgt := 18) (by decide) dX3_shifted_12 ?_
      exact r_iret C rfl (Nat.le_of_ble_eq_true rfl) dX3_shifted_18 (re_i h)
set_option maxHeartbeats 4000000 in
set_option maxRecDepth 100000 in
theorem mX3_tryOut {l : Launch} {D : va_G} {ad : Nat → Nat} {cy : Nat → ClassId} (hl : l.stackTraces = false) (hI : Inj ad) {q3 : Nat} (hq3 : isI 0 10 q3) {σ τ : Mem} {a2 : Int32} (h : fX3_tryOut q3 σ a2 = some τ) : Co l D ad cy yX3_tryOut cX3_tryOut 7 (Option.none : Option Jvm.ClassFile.FieldType) 2 122 0 [.ref (ad 98), .ref (ad 1), .int a2, .ref (ad q3)] σ (zv) τ := by
  refine co_of (av := [.inr 98, .inr 1, .inl a2, .inr q3]) hl hI (by decide +kernel) (Nat.le_of_ble_eq_true rfl) [some (.inr 98), some (.inr 1), some (.inl a2), some (.inr q3), none, none, none] rfl (fun V C => ?_)
  have C : Rl l D ad cy RX3 cX3_tryOut 7 (Option.none : Option Jvm.ClassFile.FieldType) 2 122 0 (zv) τ V := C
  have L142 : ∀ (σ : Mem) (s1 s2 s3 s4 : Int32), fX3_tryOut_L142 q3  σ s1 s2 s3 s4 = some τ → V 0 σ 142 [none, none, none, none, none, none, none] [.int s4, .int s3, .int s2, .int s1, .ref (ad q3)] := by
    intro  σ s1 s2 s3 s4 h
    refine bd_e h (fun v19 σ19 hf19 h => ?_)
    refine r_callSi C g_X3_shifted ml_X3_63 (mX3_shifted hl hI  hf19) rfl rfl (by exact Nat.le_of_ble_eq_true rfl) ⟨Nat.le_of_ble_eq_true rfl, Nat.le_of_ble_eq_true rfl, Nat.le_of_ble_eq_true rfl⟩ dX3_tryOut_142 ?_
    obtain ⟨hi, h⟩ := ck_e h
    refine r_iast C hq3 hi dX3_tryOut_145 h (fun σ20 h => ?_)
    refine r_goto C (tgt := 185) (by decide) dX3_tryOut_146 ?_
    exact r_vret C rfl (Nat.le_of_ble_eq_true rfl) dX3_tryOut_185 (re_v h)
  refine r_aload_n C dX3_tryOut_0 rfl ?_
  refine r_getR C ck_3 f_98_0 (by decide) fl_X3_11 rfl dX3_tryOut_1 ?_
  refine r_iconst C ic_1 dX3_tryOut_4 ?_
  refine r_rrald C 101 a_99 (show ¬ ((1 : Int32) < 0 ∨ 4 ≤ (1 : Int32).toNatClampNeg) by decide) (by decide) dX3_tryOut_5 ?_
  refine r_iload_n C dX3_tryOut_6 rfl ?_
  obtain ⟨hi, h⟩ := ck_e h
  refine r_iald C i_101 hi dX3_tryOut_7 ?_
  refine r_istore C (by decide) dX3_tryOut_8 ?_
  refine r_aload_n C dX3_tryOut_10 rfl ?_
  refine r_getR C ck_3 f_98_0 (by decide) fl_X3_11 rfl dX3_tryOut_11 ?_
  refine r_iconst C ic_2 dX3_tryOut_14 ?_
  refine r_rrald C 102 a_99 (show ¬ ((2 : Int32) < 0 ∨ 4 ≤ (2 : Int32).toNatClampNeg) by decide) (by decide) dX3_tryOut_15 ?_
  refine r_iload_n C dX3_tryOut_16 rfl ?_
  obtain ⟨hi, h⟩ := ck_e h
  refine r_iald C i_102 hi dX3_tryOut_17 ?_
  refine r_istore C (by decide) dX3_tryOut_18 ?_
  refine r_aload_n C dX3_tryOut_20 rfl ?_
  refine r_getR C ck_3 f_98_0 (by decide) fl_X3_11 rfl dX3_tryOut_21 ?_
  refine r_iconst C ic_3 dX3_tryOut_24 ?_
  refine r_rrald C 103 a_99 (show ¬ ((3 : Int32) < 0 ∨ 4 ≤ (3 : Int32).toNatClampNeg) by decide) (by decide) dX3_tryOut_25 ?_
  refine r_iload_n C dX3_tryOut_26 rfl ?_
  obtain ⟨hi, h⟩ := ck_e h
  refine r_iald C i_103 hi dX3_tryOut_27 ?_
  refine r_istore C (by decide) dX3_tryOut_28 ?_
  refine r_aload_n C dX3_tryOut_30 rfl ?_
  refine r_getR C ck_4 f_1_1 (by decide) fl_X3_42 rfl dX3_tryOut_31 ?_
  refine r_iconst C ic_0 dX3_tryOut_34 ?_
  refine r_aload_n C dX3_tryOut_35 rfl ?_
  refine r_iconst C ic_0 dX3_tryOut_36 ?_
  refine r_bipush C bp_10 dX3_tryOut_37 ?_
  obtain ⟨hi, h⟩ := ckc_e h
  refine r_copy C i_3 hq3 hi ml_X3_57 gm_arraycopy (by decide) (by exact Nat.le_of_ble_eq_true rfl) dX3_tryOut_39 h (fun σ21 h => ?_)
  refine r_aload_n C dX3_tryOut_42 rfl ?_
  refine r_getR C ck_3 f_98_0 (by decide) fl_X3_11 rfl dX3_tryOut_43 ?_
  refine r_iconst C ic_0 dX3_tryOut_46 ?_
  refine r_rrald C 100 a_99 (show ¬ ((0 : Int32) < 0 ∨ 4 ≤ (0 : Int32).toNatClampNeg) by decide) (by decide) dX3_tryOut_47 ?_
  refine r_iload_n C dX3_tryOut_48 rfl ?_
  obtain ⟨hi, h⟩ := ck_e h
  refine r_iald C i_100 hi dX3_tryOut_49 ?_
  refine sw_e h (fun he0 h => ?_) (fun he0 h => ?_)
  · refine r_tinE C 30 (tgt := 80) dX3_tryOut_50 he0 ⟨by decide, by decide⟩ (by decide) (by decide) ?_
    refine r_aload_n C dX3_tryOut_80 rfl ?_
    refine r_iload C dX3_tryOut_81 rfl ?_
    refine r_iload C dX3_tryOut_83 rfl ?_
    obtain ⟨hi, h⟩ := ck_e h
    refine r_iast C hq3 hi dX3_tryOut_85 h (fun σ22 h => ?_)
    refine r_goto C (tgt := 185) (by decide) dX3_tryOut_86 ?_
    exact r_vret C rfl (Nat.le_of_ble_eq_true rfl) dX3_tryOut_185 (re_v h)
  · refine sw_e h (fun he1 h => ?_) (fun he1 h => ?_)
    · refine r_tinE C 39 (tgt := 89) dX3_tryOut_50 he1 ⟨by decide, by decide⟩ (by decide) (by decide) ?_
      refine r_aload_n C dX3_tryOut_89 rfl ?_
      refine r_iload C dX3_tryOut_90 rfl ?_
      refine r_aload_n C dX3_tryOut_92 rfl ?_
      refine r_getR C ck_4 f_1_1 (by decide) fl_X3_42 rfl dX3_tryOut_93 ?_
      refine r_iload C dX3_tryOut_96 rfl ?_
      obtain ⟨hi, h⟩ := ck_e h
      refine r_iald C i_3 hi dX3_tryOut_98 ?_
      obtain ⟨hi, h⟩ := ck_e h
      refine r_iast C hq3 hi dX3_tryOut_99 h (fun σ23 h => ?_)
      refine r_aload_n C dX3_tryOut_100 rfl ?_
      refine r_iload C dX3_tryOut_101 rfl ?_
      refine r_aload_n C dX3_tryOut_103 rfl ?_
      refine r_getR C ck_4 f_1_1 (by decide) fl_X3_42 rfl dX3_tryOut_104 ?_
      refine r_iload C dX3_tryOut_107 rfl ?_
      obtain ⟨hi, h⟩ := ck_e h
      refine r_iald C i_3 hi dX3_tryOut_109 ?_
      obtain ⟨hi, h⟩ := ck_e h
      refine r_iast C hq3 hi dX3_tryOut_110 h (fun σ24 h => ?_)
      refine r_goto C (tgt := 185) (by decide) dX3_tryOut_111 ?_
      exact r_vret C rfl (Nat.le_of_ble_eq_true rfl) dX3_tryOut_185 (re_v h)
    · refine sw_e h (fun he2 h => ?_) (fun he2 h => ?_)
      · refine r_tinE C 64 (tgt := 114) dX3_tryOut_50 he2 ⟨by decide, by decide⟩ (by decide) (by decide) ?_
        refine r_aload_n C dX3_tryOut_114 rfl ?_
        refine r_iload C dX3_tryOut_115 rfl ?_
        refine r_aload_n C dX3_tryOut_117 rfl ?_
        refine r_getR C ck_4 f_1_1 (by decide) fl_X3_42 rfl dX3_tryOut_118 ?_
        refine r_iload C dX3_tryOut_121 rfl ?_
        obtain ⟨hi, h⟩ := ck_e h
        refine r_iald C i_3 hi dX3_tryOut_123 ?_
        refine r_aload_n C dX3_tryOut_124 rfl ?_
        refine r_getR C ck_4 f_1_0 (by decide) fl_X3_38 rfl dX3_tryOut_125 ?_
        refine r_iload C dX3_tryOut_128 rfl ?_
        obtain ⟨hi, h⟩ := ck_e h
        refine r_iald C i_2 hi dX3_tryOut_130 ?_
        refine r_iload C dX3_tryOut_131 rfl ?_
        refine r_iconst C ic_1 dX3_tryOut_133 ?_
        refine r_ic_ne C (tgt := 141) h (by decide) dX3_tryOut_134 (fun hc h => ?_) (fun hc h => ?_)
        · refine r_iconst C ic_0 dX3_tryOut_141 ?_
          refine r_weak C [none, none, none, none, none, none, none] trivial ?_
          exact L142 _ _ _ _ _ h
        · refine r_iconst C ic_1 dX3_tryOut_137 ?_
          refine r_goto C (tgt := 142) (by decide) dX3_tryOut_138 ?_
          refine r_weak C [none, none, none, none, none, none, none] trivial ?_
          exact L142 _ _ _ _ _ h
      · refine sw_e h (fun he3 h => ?_) (fun he3 h => ?_)
        · refine r_tinE C 99 (tgt := 149) dX3_tryOut_50 he3 ⟨by decide, by decide⟩ (by decide) (by decide) ?_
          refine r_aload_n C dX3_tryOut_149 rfl ?_
          refine r_iload C dX3_tryOut_150 rfl ?_
          refine r_aload_n C dX3_tryOut_152 rfl ?_
          refine r_getR C ck_4 f_1_1 (by decide) fl_X3_42 rfl dX3_tryOut_153 ?_
          refine r_iload C dX3_tryOut_156 rfl ?_
          obtain ⟨hi, h⟩ := ck_e h
          refine r_iald C i_3 hi dX3_tryOut_158 ?_
          obtain ⟨hi, h⟩ := ck_e h
          refine r_iast C hq3 hi dX3_tryOut_159 h (fun σ25 h => ?_)
          refine r_aload_n C dX3_tryOut_160 rfl ?_
          refine r_iload C dX3_tryOut_161 rfl ?_
          refine r_aload_n C dX3_tryOut_163 rfl ?_
          refine r_getR C ck_4 f_1_1 (by decide) fl_X3_42 rfl dX3_tryOut_164 ?_
          refine r_iload C dX3_tryOut_167 rfl ?_
          obtain ⟨hi, h⟩ := ck_e h
          refine r_iald C i_3 hi dX3_tryOut_169 ?_
          obtain ⟨hi, h⟩ := ck_e h
          refine r_iast C hq3 hi dX3_tryOut_170 h (fun σ26 h => ?_)
          refine r_aload_n C dX3_tryOut_171 rfl ?_
          refine r_iload C dX3_tryOut_172 rfl ?_
          refine r_aload_n C dX3_tryOut_174 rfl ?_
          refine r_getR C ck_4 f_1_1 (by decide) fl_X3_42 rfl dX3_tryOut_175 ?_
          refine r_iload C dX3_tryOut_178 rfl ?_
          obtain ⟨hi, h⟩ := ck_e h
          refine r_iald C i_3 hi dX3_tryOut_180 ?_
          obtain ⟨hi, h⟩ := ck_e h
          refine r_iast C hq3 hi dX3_tryOut_181 h (fun σ27 h => ?_)
          refine r_goto C (tgt := 185) (by decide) dX3_tryOut_182 ?_
          exact r_vret C rfl (Nat.le_of_ble_eq_true rfl) dX3_tryOut_185 (re_v h)
        · refine r_tout C (tgt := 185) dX3_tryOut_50 (tout 3 (by decide) (fun j hj => match j, hj with | 0, _ => he0 | 1, _ => he1 | 2, _ => he2 | 3, _ => he3)) (by decide) ?_
          exact r_vret C rfl (Nat.le_of_ble_eq_true rfl) dX3_tryOut_185 (re_v h)
set_option maxHeartbeats 4000000 in
set_option maxRecDepth 100000 in
theorem mX6_put {l : Launch} {D : va_G} {ad : Nat → Nat} {cy : Nat → ClassId} (hl : l.stackTraces = false) (hI : Inj ad)   {σ τ : Mem} {a2 a3 a4 a5 : Int32} (h : fX6_put σ a2 a3 a4 a5 = some τ) : Co l D ad cy yX6_put cX6_put 8 (Option.none : Option Jvm.ClassFile.FieldType) 1 100 0 [.ref (ad 104), .ref (ad 98), .int a2, .int a3, .int a4, .int a5] σ (zv) τ := by
  refine co_of (av := [.inr 104, .inr 98, .inl a2, .inl a3, .inl a4, .inl a5]) hl hI (by decide +kernel) (Nat.le_of_ble_eq_true rfl) [some (.inr 104), some (.inr 98), some (.inl a2), some (.inl a3), some (.inl a4), some (.inl a5), none, none] rfl (fun V C => ?_)
  have C : Rl l D ad cy RX6 cX6_put 8 (Option.none : Option Jvm.ClassFile.FieldType) 1 100 0 (zv) τ V := C
  have L90 : ∀ (σ : Mem) (s1 s2 : Int32), fX6_put_L90   σ s1 s2 = some τ → V 0 σ 90 [some (.inr 104), none, none, none, none, none, none, none] [.int s2, .int s1, .ref (ad 112)] := by
    intro  σ s1 s2 h
    obtain ⟨hi, h⟩ := ck_e h
    refine r_iast C i_112 hi dX6_put_90 h (fun σ19 h => ?_)
    refine r_aload_n C dX6_put_91 rfl ?_
    refine r_getI C ck_6 f_104_2 (by decide) fl_X6_20 rfl dX6_put_92 ?_
    refine r_bipush C bp_40 dX6_put_95 ?_
    refine r_ic_ge C (tgt := 113) h (by decide) dX6_put_97 (fun hc h => ?_) (fun hc h => ?_)
    · refine r_aload_n C dX6_put_113 rfl ?_
      refine r_aload_n C dX6_put_114 rfl ?_
      refine r_getI C ck_6 f_104_1 (by decide) fl_X6_16 rfl dX6_put_115 ?_
      refine r_iconst C ic_1 dX6_put_118 ?_
      refine r_iadd C dX6_put_119 ?_
      refine r_bipush C bp_40 dX6_put_120 ?_
      refine r_irem C dX6_put_122 (by decide) ?_
      refine r_putI C ck_6 f_104_1 (by decide) fl_X6_16 rfl rfl rfl rfl rfl dX6_put_123 h (fun σ20 h => ?_)
      exact r_vret C rfl (Nat.le_of_ble_eq_true rfl) dX6_put_126 (re_v h)
    · refine r_aload_n C dX6_put_100 rfl ?_
      refine r_dup C rfl dX6_put_101 ?_
      refine r_getI C ck_6 f_104_2 (by decide) fl_X6_20 rfl dX6_put_102 ?_
      refine r_iconst C ic_1 dX6_put_105 ?_
      refine r_iadd C dX6_put_106 ?_
      refine r_putI C ck_6 f_104_2 (by decide) fl_X6_20 rfl rfl rfl rfl rfl dX6_put_107 h (fun σ21 h => ?_)
      refine r_goto C (tgt := 126) (by decide) dX6_put_110 ?_
      exact r_vret C rfl (Nat.le_of_ble_eq_true rfl) dX6_put_126 (re_v h)
  have L17 : ∀ (n : Nat) (σ : Mem) (l2 l3 l4 l5 l6 l7 : Int32), fX6_put_L17  n σ l2 l3 l4 l5 l6 l7 = some τ → V 0 σ 17 [some (.inr 104), some (.inr 98), some (.inl l2), some (.inl l3), some (.inl l4), some (.inl l5), some (.inl l6), some (.inl l7)] [] := by
    intro n17
    induction n17 with
    | zero => intro σ l2 l3 l4 l5 l6 l7 h; exact no_e h
    | succ n17 ih17 =>
      intro σ l2 l3 l4 l5 l6 l7 h
      have h : fX6_put_B17  (fX6_put_L17  n17) σ l2 l3 l4 l5 l6 l7 = some τ := h
      refine r_iload C dX6_put_17 rfl ?_
      refine r_iconst C ic_4 dX6_put_19 ?_
      refine r_ic_ge C (tgt := 48) h (by decide) dX6_put_20 (fun hc h => ?_) (fun hc h => ?_)
      · refine r_aload_n C dX6_put_48 rfl ?_
        refine r_getR C ck_6 f_104_0 (by decide) fl_X6_13 rfl dX6_put_49 ?_
        refine r_iconst C ic_4 dX6_put_52 ?_
        refine r_rrald C 110 a_105 (show ¬ ((4 : Int32) < 0 ∨ 7 ≤ (4 : Int32).toNatClampNeg) by decide) (by decide) dX6_put_53 ?_
        refine r_iload C dX6_put_54 rfl ?_
        refine r_iload C dX6_put_56 rfl ?_
        obtain ⟨hi, h⟩ := ck_e h
        refine r_iast C i_110 hi dX6_put_58 h (fun σ22 h => ?_)
        refine r_aload_n C dX6_put_59 rfl ?_
        refine r_getR C ck_6 f_104_0 (by decide) fl_X6_13 rfl dX6_put_60 ?_
        refine r_iconst C ic_5 dX6_put_63 ?_
        refine r_rrald C 111 a_105 (show ¬ ((5 : Int32) < 0 ∨ 7 ≤ (5 : Int32).toNatClampNeg) by decide) (by decide) dX6_put_64 ?_
        refine r_iload C dX6_put_65 rfl ?_
        refine r_iload C dX6_put_67 rfl ?_
        obtain ⟨hi, h⟩ := ck_e h
        refine r_iast C i_111 hi dX6_put_69 h (fun σ23 h => ?_)
        refine r_aload_n C dX6_put_70 rfl ?_
        refine r_getR C ck_6 f_104_0 (by decide) fl_X6_13 rfl dX6_put_71 ?_
        refine r_bipush C bp_6 dX6_put_74 ?_
        refine r_rrald C 112 a_105 (show ¬ ((6 : Int32) < 0 ∨ 7 ≤ (6 : Int32).toNatClampNeg) by decide) (by decide) dX6_put_76 ?_
        refine r_iload C dX6_put_77 rfl ?_
        refine r_iload C dX6_put_79 rfl ?_
        refine r_iload_n C dX6_put_81 rfl ?_
        refine r_ic_ge C (tgt := 89) h (by decide) dX6_put_82 (fun hc h => ?_) (fun hc h => ?_)
        · refine r_iconst C ic_0 dX6_put_89 ?_
          refine r_weak C [some (.inr 104), none, none, none, none, none, none, none] ⟨rfl, trivial⟩ ?_
          exact L90 _ _ _ h
        · refine r_iconst C ic_1 dX6_put_85 ?_
          refine r_goto C (tgt := 90) (by decide) dX6_put_86 ?_
          refine r_weak C [some (.inr 104), none, none, none, none, none, none, none] ⟨rfl, trivial⟩ ?_
          exact L90 _ _ _ h
      · refine r_aload_n C dX6_put_23 rfl ?_
        refine r_getR C ck_6 f_104_0 (by decide) fl_X6_13 rfl dX6_put_24 ?_
        refine r_iload C dX6_put_27 rfl ?_
        obtain ⟨ha24, h⟩ := ck_e h
        refine r_rrald C _ a_105 ha24 rfl dX6_put_29 ?_
        refine r_iload C dX6_put_30 rfl ?_
        refine r_aload_n C dX6_put_32 rfl ?_
        refine r_getR C ck_3 f_98_0 (by decide) fl_X6_23 rfl dX6_put_33 ?_
        refine r_iload C dX6_put_36 rfl ?_
        obtain ⟨ha25, h⟩ := ck_e h
        refine r_rrald C _ a_99 ha25 rfl dX6_put_38 ?_
        refine r_iload_n C dX6_put_39 rfl ?_
        obtain ⟨hi, h⟩ := ck_e h
        refine r_iald C (row_99 ha25) hi dX6_put_40 ?_
        obtain ⟨hi, h⟩ := ck_e h
        refine r_iast C (row_105 ha24) hi dX6_put_41 h (fun σ26 h => ?_)
        refine r_iinc C ic_1 (by decide) dX6_put_42 rfl ?_
        refine r_goto C (tgt := 17) (by decide) dX6_put_45 ?_
        exact ih17 _ _ _ _ _ _ _ h
  refine r_aload_n C dX6_put_0 rfl ?_
  refine r_getI C ck_6 f_104_1 (by decide) fl_X6_16 rfl dX6_put_1 ?_
  refine r_aload_n C dX6_put_4 rfl ?_
  refine r_getI C ck_6 f_104_2 (by decide) fl_X6_20 rfl dX6_put_5 ?_
  refine r_iadd C dX6_put_8 ?_
  refine r_bipush C bp_40 dX6_put_9 ?_
  refine r_irem C dX6_put_11 (by decide) ?_
  refine r_istoreL C h (by decide) dX6_put_12 (fun x27 h => ?_)
  refine r_iconst C ic_0 dX6_put_14 ?_
  refine r_istore C (by decide) dX6_put_15 ?_
  exact L17 FU _ _ _ _ _ _ _ h
set_option maxHeartbeats 4000000 in
set_option maxRecDepth 100000 in
theorem mX6_partAt {l : Launch} {D : va_G} {ad : Nat → Nat} {cy : Nat → ClassId} (hl : l.stackTraces = false) (hI : Inj ad)   {σ τ : Mem} {a1 a2 : Int32} {r : Int32} (h : fX6_partAt σ a1 a2 = some (r, τ)) : Co l D ad cy yX6_partAt cX6_partAt 3 (Option.some Jvm.ClassFile.FieldType.int) 1 100 0 [.ref (ad 104), .int a1, .int a2] σ (zi r) τ := by
  refine co_of (av := [.inr 104, .inl a1, .inl a2]) hl hI (by decide +kernel) (Nat.le_of_ble_eq_true rfl) [some (.inr 104), some (.inl a1), some (.inl a2)] rfl (fun V C => ?_)
  have C : Rl l D ad cy RX6 cX6_partAt 3 (Option.some Jvm.ClassFile.FieldType.int) 1 100 0 (zi r) τ V := C
  refine r_aload_n C dX6_partAt_0 rfl ?_
  refine r_getR C ck_6 f_104_0 (by decide) fl_X6_13 rfl dX6_partAt_1 ?_
  refine r_iload_n C dX6_partAt_4 rfl ?_
  obtain ⟨ha3, h⟩ := ck_e h
  refine r_rrald C _ a_105 ha3 rfl dX6_partAt_5 ?_
  refine r_aload_n C dX6_partAt_6 rfl ?_
  refine r_getI C ck_6 f_104_1 (by decide) fl_X6_16 rfl dX6_partAt_7 ?_
  refine r_iload_n C dX6_partAt_10 rfl ?_
  refine r_iadd C dX6_partAt_11 ?_
  refine r_bipush C bp_40 dX6_partAt_12 ?_
  refine r_irem C dX6_partAt_14 (by decide) ?_
  obtain ⟨hi, h⟩ := ck_e h
  refine r_iald C (row_105 ha3) hi dX6_partAt_15 ?_
  exact r_iret C rfl (Nat.le_of_ble_eq_true rfl) dX6_partAt_16 (re_i h)
set_option maxHeartbeats 4000000 in
set_option maxRecDepth 100000 in
theorem mX6_improvements {l : Launch} {D : va_G} {ad : Nat → Nat} {cy : Nat → ClassId} (hl : l.stackTraces = false) (hI : Inj ad)   {σ τ : Mem} {r : Int32} (h : fX6_improvements σ = some (r, τ)) : Co l D ad cy yX6_improvements cX6_improvements 3 (Option.some Jvm.ClassFile.FieldType.int) 2 122 0 [.ref (ad 104)] σ (zi r) τ := by
  refine co_of (av := [.inr 104]) hl hI (by decide +kernel) (Nat.le_of_ble_eq_true rfl) [some (.inr 104), none, none] rfl (fun V C => ?_)
  have C : Rl l D ad cy RX6 cX6_improvements 3 (Option.some Jvm.ClassFile.FieldType.int) 2 122 0 (zi r) τ V := C
  have L4 : ∀ (n : Nat) (σ : Mem) (l1 l2 : Int32), fX6_improvements_L4  n σ l1 l2 = some (r, τ) → V 0 σ 4 [some (.inr 104), some (.inl l1), some (.inl l2)] [] := by
    intro n4
    induction n4 with
    | zero => intro σ l1 l2 h; exact no_e h
    | succ n4 ih4 =>
      intro σ l1 l2 h
      have h : fX6_improvements_B4  (fX6_improvements_L4  n4) σ l1 l2 = some (r, τ) := h
      refine r_iload_n C dX6_improvements_4 rfl ?_
      refine r_aload_n C dX6_improvements_5 rfl ?_
      refine r_getI C ck_6 f_104_2 (by decide) fl_X6_20 rfl dX6_improvements_6 ?_
      refine r_ic_ge C (tgt := 28) h (by decide) dX6_improvements_9 (fun hc h => ?_) (fun hc h => ?_)
      · refine r_iload_n C dX6_improvements_28 rfl ?_
        exact r_iret C rfl (Nat.le_of_ble_eq_true rfl) dX6_improvements_29 (re_i h)
      · refine r_iload_n C dX6_improvements_12 rfl ?_
        refine r_aload_n C dX6_improvements_13 rfl ?_
        refine r_iload_n C dX6_improvements_14 rfl ?_
        refine r_bipush C bp_6 dX6_improvements_15 ?_
        refine bd_e h (fun v3 σ3 hf3 h => ?_)
        refine r_callVi C g_X6_partAt hc_6 o_104 ml_X6_26 (mX6_partAt hl hI  hf3) rfl rfl (by exact Nat.le_of_ble_eq_true rfl) ⟨Nat.le_of_ble_eq_true rfl, Nat.le_of_ble_eq_true rfl, Nat.le_of_ble_eq_true rfl⟩ dX6_improvements_17 ?_
        refine r_iadd C dX6_improvements_20 ?_
        refine r_istore_n C (by decide) dX6_improvements_21 ?_
        refine r_iinc C ic_1 (by decide) dX6_improvements_22 rfl ?_
        refine r_goto C (tgt := 4) (by decide) dX6_improvements_25 ?_
        exact ih4 _ _ _ h
  refine r_iconst C ic_0 dX6_improvements_0 ?_
  refine r_istore_n C (by decide) dX6_improvements_1 ?_
  refine r_iconst C ic_0 dX6_improvements_2 ?_
  refine r_istore_n C (by decide) dX6_improvements_3 ?_
  exact L4 FU _ _ _ h
set_option maxHeartbeats 4000000 in
set_option maxRecDepth 100000 in
theorem mX2_put {l : Launch} {D : va_G} {ad : Nat → Nat} {cy : Nat → ClassId} (hl : l.stackTraces = false) (hI : Inj ad)   {σ τ : Mem} {a1 : Int32} (h : fX2_put σ a1 = some τ) : Co l D ad cy yX2_put cX2_put 2 (Option.none : Option Jvm.ClassFile.FieldType) 1 100 0 [.ref (ad 116), .int a1] σ (zv) τ := by
  refine co_of (av := [.inr 116, .inl a1]) hl hI (by decide +kernel) (Nat.le_of_ble_eq_true rfl) [some (.inr 116), some (.inl a1)] rfl (fun V C => ?_)
  have C : Rl l D ad cy RX2 cX2_put 2 (Option.none : Option Jvm.ClassFile.FieldType) 1 100 0 (zv) τ V := C
  refine r_aload_n C dX2_put_0 rfl ?_
  refine r_getR C ck_2 f_116_0 (by decide) fl_X2_9 rfl dX2_put_1 ?_
  refine r_aload_n C dX2_put_4 rfl ?_
  refine r_getI C ck_2 f_116_1 (by decide) fl_X2_15 rfl dX2_put_5 ?_
  refine r_iload_n C dX2_put_8 rfl ?_
  obtain ⟨hi, h⟩ := ck_e h
  refine r_cast C i_117 hi dX2_put_9 h (fun σ5 h => ?_)
  refine r_aload_n C dX2_put_10 rfl ?_
  refine r_dup C rfl dX2_put_11 ?_
  refine r_getI C ck_2 f_116_1 (by decide) fl_X2_15 rfl dX2_put_12 ?_
  refine r_iconst C ic_1 dX2_put_15 ?_
  refine r_iadd C dX2_put_16 ?_
  refine r_putI C ck_2 f_116_1 (by decide) fl_X2_15 rfl rfl rfl rfl rfl dX2_put_17 h (fun σ6 h => ?_)
  exact r_vret C rfl (Nat.le_of_ble_eq_true rfl) dX2_put_20 (re_v h)
set_option maxHeartbeats 4000000 in
set_option maxRecDepth 100000 in
theorem mX2_take {l : Launch} {D : va_G} {ad : Nat → Nat} {cy : Nat → ClassId} (hl : l.stackTraces = false) (hI : Inj ad)   {σ τ : Mem} {a1 a2 : Int32} {r : Int32} (h : fX2_take σ a1 a2 = some (r, τ)) : Co l D ad cy yX2_take cX2_take 3 (Option.some Jvm.ClassFile.FieldType.int) 1 100 0 [.ref (ad 116), .int a1, .int a2] σ (zi r) τ := by
  refine co_of (av := [.inr 116, .inl a1, .inl a2]) hl hI (by decide +kernel) (Nat.le_of_ble_eq_true rfl) [some (.inr 116), some (.inl a1), some (.inl a2)] rfl (fun V C => ?_)
  have C : Rl l D ad cy RX2 cX2_take 3 (Option.some Jvm.ClassFile.FieldType.int) 1 100 0 (zi r) τ V := C
  have L37 : ∀ (σ : Mem), fX2_take_L37   σ  = some (r, τ) → V 0 σ 37 [none, none, none] [] := by
    intro  σ  h
    refine r_iconst C ic_m1 dX2_take_37 ?_
    exact r_iret C rfl (Nat.le_of_ble_eq_true rfl) dX2_take_38 (re_i h)
  refine r_aload_n C dX2_take_0 rfl ?_
  refine r_getI C ck_2 f_116_2 (by decide) fl_X2_19 rfl dX2_take_1 ?_
  refine r_aload_n C dX2_take_4 rfl ?_
  refine r_getI C ck_2 f_116_1 (by decide) fl_X2_15 rfl dX2_take_5 ?_
  refine r_ic_ge C (tgt := 37) h (by decide) dX2_take_8 (fun hc h => ?_) (fun hc h => ?_)
  · refine r_weak C [none, none, none] trivial ?_
    exact L37 _ h
  · refine r_aload_n C dX2_take_11 rfl ?_
    refine r_getR C ck_2 f_116_0 (by decide) fl_X2_9 rfl dX2_take_12 ?_
    refine r_aload_n C dX2_take_15 rfl ?_
    refine r_getI C ck_2 f_116_2 (by decide) fl_X2_19 rfl dX2_take_16 ?_
    obtain ⟨hi, h⟩ := ck_e h
    refine r_cald C i_117 hi dX2_take_19 ?_
    refine r_iload_n C dX2_take_20 rfl ?_
    refine r_ic_lt C (tgt := 37) h (by decide) dX2_take_21 (fun hc h => ?_) (fun hc h => ?_)
    · refine r_weak C [none, none, none] trivial ?_
      exact L37 _ h
    · refine r_aload_n C dX2_take_24 rfl ?_
      refine r_getR C ck_2 f_116_0 (by decide) fl_X2_9 rfl dX2_take_25 ?_
      refine r_aload_n C dX2_take_28 rfl ?_
      refine r_getI C ck_2 f_116_2 (by decide) fl_X2_19 rfl dX2_take_29 ?_
      obtain ⟨hi, h⟩ := ck_e h
      refine r_cald C i_117 hi dX2_take_32 ?_
      refine r_iload_n C dX2_take_33 rfl ?_
      refine r_ic_le C (tgt := 39) h (by decide) dX2_take_34 (fun hc h => ?_) (fun hc h => ?_)
      · refine r_aload_n C dX2_take_39 rfl ?_
        refine r_dup C rfl dX2_take_40 ?_
        refine r_getI C ck_2 f_116_2 (by decide) fl_X2_19 rfl dX2_take_41 ?_
        refine r_iconst C ic_1 dX2_take_44 ?_
        refine r_iadd C dX2_take_45 ?_
        refine r_putI C ck_2 f_116_2 (by decide) fl_X2_19 rfl rfl rfl rfl rfl dX2_take_46 h (fun σ3 h => ?_)
        refine r_aload_n C dX2_take_49 rfl ?_
        refine r_getR C ck_2 f_116_0 (by decide) fl_X2_9 rfl dX2_take_50 ?_
        refine r_aload_n C dX2_take_53 rfl ?_
        refine r_getI C ck_2 f_116_2 (by decide) fl_X2_19 rfl dX2_take_54 ?_
        refine r_iconst C ic_1 dX2_take_57 ?_
        refine r_isub C dX2_take_58 ?_
        obtain ⟨hi, h⟩ := ck_e h
        refine r_cald C i_117 hi dX2_take_59 ?_
        exact r_iret C rfl (Nat.le_of_ble_eq_true rfl) dX2_take_60 (re_i h)
      · refine r_weak C [none, none, none] trivial ?_
        exact L37 _ h
set_option maxHeartbeats 4000000 in
set_option maxRecDepth 100000 in
theorem mX2_parseSize {l : Launch} {D : va_G} {ad : Nat → Nat} {cy : Nat → ClassId} (hl : l.stackTraces = false) (hI : Inj ad)   {σ τ : Mem} {r : Int32} (h : fX2_parseSize σ = some (r, τ)) : Co l D ad cy yX2_parseSize cX2_parseSize 2 (Option.some Jvm.ClassFile.FieldType.boolean) 2 122 0 [.ref (ad 116)] σ (zi r) τ := by
  refine co_of (av := [.inr 116]) hl hI (by decide +kernel) (Nat.le_of_ble_eq_true rfl) [some (.inr 116), none] rfl (fun V C => ?_)
  have C : Rl l D ad cy RX2 cX2_parseSize 2 (Option.some Jvm.ClassFile.FieldType.boolean) 2 122 0 (zi r) τ V := C
  refine r_aload_n C dX2_parseSize_0 rfl ?_
  refine r_bipush C bp_50 dX2_parseSize_1 ?_
  refine r_bipush C bp_56 dX2_parseSize_3 ?_
  refine bd_e h (fun v7 σ7 hf7 h => ?_)
  refine r_callVi C g_X2_take hc_2 o_116 ml_X2_42 (mX2_take hl hI  hf7) rfl rfl (by exact Nat.le_of_ble_eq_true rfl) ⟨Nat.le_of_ble_eq_true rfl, Nat.le_of_ble_eq_true rfl, Nat.le_of_ble_eq_true rfl⟩ dX2_parseSize_5 ?_
  refine r_istore_n C (by decide) dX2_parseSize_8 ?_
  refine r_aload_n C dX2_parseSize_9 rfl ?_
  refine r_getR C ck_2 f_116_3 (by decide) fl_X2_22 rfl dX2_parseSize_10 ?_
  refine r_aload_n C dX2_parseSize_13 rfl ?_
  refine r_getI C ck_2 f_116_7 (by decide) fl_X2_35 rfl dX2_parseSize_14 ?_
  refine r_iconst C ic_m1 dX2_parseSize_17 ?_
  obtain ⟨hi, h⟩ := ck_e h
  refine r_iast C i_118 hi dX2_parseSize_18 h (fun σ8 h => ?_)
  refine r_aload_n C dX2_parseSize_19 rfl ?_
  refine r_getR C ck_2 f_116_5 (by decide) fl_X2_29 rfl dX2_parseSize_20 ?_
  refine r_aload_n C dX2_parseSize_23 rfl ?_
  refine r_getI C ck_2 f_116_7 (by decide) fl_X2_35 rfl dX2_parseSize_24 ?_
  refine r_iload_n C dX2_parseSize_27 rfl ?_
  refine r_bipush C bp_48 dX2_parseSize_28 ?_
  refine r_isub C dX2_parseSize_30 ?_
  obtain ⟨hi, h⟩ := ck_e h
  refine r_iast C i_120 hi dX2_parseSize_31 h (fun σ9 h => ?_)
  refine r_iload_n C dX2_parseSize_32 rfl ?_
  refine r_iconst C ic_m1 dX2_parseSize_33 ?_
  refine r_ic_eq C (tgt := 41) h (by decide) dX2_parseSize_34 (fun hc h => ?_) (fun hc h => ?_)
  · refine r_iconst C ic_0 dX2_parseSize_41 ?_
    exact r_zret C rfl (Nat.le_of_ble_eq_true rfl) (Or.inl rfl) dX2_parseSize_42 (re_i h)
  · refine r_iconst C ic_1 dX2_parseSize_37 ?_
    refine r_goto C (tgt := 42) (by decide) dX2_parseSize_38 ?_
    exact r_zret C rfl (Nat.le_of_ble_eq_true rfl) (Or.inr rfl) dX2_parseSize_42 (re_i h)
set_option maxHeartbeats 4000000 in
set_option maxRecDepth 100000 in
theorem mX2_parseKind {l : Launch} {D : va_G} {ad : Nat → Nat} {cy : Nat → ClassId} (hl : l.stackTraces = false) (hI : Inj ad)   {σ τ : Mem} {r : Int32} (h : fX2_parseKind σ = some (r, τ)) : Co l D ad cy yX2_parseKind cX2_parseKind 2 (Option.some Jvm.ClassFile.FieldType.boolean) 2 122 0 [.ref (ad 116)] σ (zi r) τ := by
  refine co_of (av := [.inr 116]) hl hI (by decide +kernel) (Nat.le_of_ble_eq_true rfl) [some (.inr 116), none] rfl (fun V C => ?_)
  have C : Rl l D ad cy RX2 cX2_parseKind 2 (Option.some Jvm.ClassFile.FieldType.boolean) 2 122 0 (zi r) τ V := C
  refine r_aload_n C dX2_parseKind_0 rfl ?_
  refine r_bipush C bp_97 dX2_parseKind_1 ?_
  refine r_bipush C bp_102 dX2_parseKind_3 ?_
  refine bd_e h (fun v5 σ5 hf5 h => ?_)
  refine r_callVi C g_X2_take hc_2 o_116 ml_X2_42 (mX2_take hl hI  hf5) rfl rfl (by exact Nat.le_of_ble_eq_true rfl) ⟨Nat.le_of_ble_eq_true rfl, Nat.le_of_ble_eq_true rfl, Nat.le_of_ble_eq_true rfl⟩ dX2_parseKind_5 ?_
  refine r_istore_n C (by decide) dX2_parseKind_8 ?_
  refine r_aload_n C dX2_parseKind_9 rfl ?_
  refine r_getR C ck_2 f_116_3 (by decide) fl_X2_22 rfl dX2_parseKind_10 ?_
  refine r_aload_n C dX2_parseKind_13 rfl ?_
  refine r_getI C ck_2 f_116_7 (by decide) fl_X2_35 rfl dX2_parseKind_14 ?_
  refine r_iload_n C dX2_parseKind_17 rfl ?_
  refine r_bipush C bp_97 dX2_parseKind_18 ?_
  refine r_isub C dX2_parseKind_20 ?_
  obtain ⟨hi, h⟩ := ck_e h
  refine r_iast C i_118 hi dX2_parseKind_21 h (fun σ6 h => ?_)
  refine r_iload_n C dX2_parseKind_22 rfl ?_
  refine r_iconst C ic_m1 dX2_parseKind_23 ?_
  refine r_ic_eq C (tgt := 31) h (by decide) dX2_parseKind_24 (fun hc h => ?_) (fun hc h => ?_)
  · refine r_iconst C ic_0 dX2_parseKind_31 ?_
    exact r_zret C rfl (Nat.le_of_ble_eq_true rfl) (Or.inl rfl) dX2_parseKind_32 (re_i h)
  · refine r_iconst C ic_1 dX2_parseKind_27 ?_
    refine r_goto C (tgt := 32) (by decide) dX2_parseKind_28 ?_
    exact r_zret C rfl (Nat.le_of_ble_eq_true rfl) (Or.inr rfl) dX2_parseKind_32 (re_i h)
set_option maxHeartbeats 4000000 in
set_option maxRecDepth 100000 in
theorem mX2_parseMembers {l : Launch} {D : va_G} {ad : Nat → Nat} {cy : Nat → ClassId} (hl : l.stackTraces = false) (hI : Inj ad)   {σ τ : Mem} {r : Int32} (h : fX2_parseMembers σ = some (r, τ)) : Co l D ad cy yX2_parseMembers cX2_parseMembers 5 (Option.some Jvm.ClassFile.FieldType.boolean) 2 122 0 [.ref (ad 116)] σ (zi r) τ := by
  refine co_of (av := [.inr 116]) hl hI (by decide +kernel) (Nat.le_of_ble_eq_true rfl) [some (.inr 116), none, none, none, none] rfl (fun V C => ?_)
  have C : Rl l D ad cy RX2 cX2_parseMembers 5 (Option.some Jvm.ClassFile.FieldType.boolean) 2 122 0 (zi r) τ V := C
  have L52 : ∀ (n : Nat) (σ : Mem) (l3 l4 : Int32), fX2_parseMembers_L52  n σ l3 l4 = some (r, τ) → V 0 σ 52 [some (.inr 116), none, none, some (.inl l3), some (.inl l4)] [] := by
    intro n52
    induction n52 with
    | zero => intro σ l3 l4 h; exact no_e h
    | succ n52 ih52 =>
      have L81 : ∀ (σ : Mem) (l3 l4 : Int32), fX2_parseMembers_L81 (fX2_parseMembers_L52  n52)  σ l3 l4 = some (r, τ) → V 0 σ 81 [some (.inr 116), none, none, some (.inl l3), some (.inl l4)] [] := by
        intro  σ l3 l4 h
        refine r_iinc C ic_1 (by decide) dX2_parseMembers_81 rfl ?_
        refine r_goto C (tgt := 52) (by decide) dX2_parseMembers_84 ?_
        exact ih52 _ _ _ h
      intro σ l3 l4 h
      have h : fX2_parseMembers_B52  (fX2_parseMembers_L52  n52) σ l3 l4 = some (r, τ) := h
      refine r_iload C dX2_parseMembers_52 rfl ?_
      refine r_bipush C bp_57 dX2_parseMembers_54 ?_
      refine r_ic_gt C (tgt := 87) h (by decide) dX2_parseMembers_56 (fun hc h => ?_) (fun hc h => ?_)
      · refine r_aload_n C dX2_parseMembers_87 rfl ?_
        refine r_getR C ck_2 f_116_4 (by decide) fl_X2_26 rfl dX2_parseMembers_88 ?_
        refine r_aload_n C dX2_parseMembers_91 rfl ?_
        refine r_getI C ck_2 f_116_7 (by decide) fl_X2_35 rfl dX2_parseMembers_92 ?_
        refine r_iload_n C dX2_parseMembers_95 rfl ?_
        obtain ⟨hi, h⟩ := ck_e h
        refine r_iast C i_119 hi dX2_parseMembers_96 h (fun σ15 h => ?_)
        refine r_aload_n C dX2_parseMembers_97 rfl ?_
        refine r_bipush C bp_58 dX2_parseMembers_98 ?_
        refine r_bipush C bp_58 dX2_parseMembers_100 ?_
        refine bd_e h (fun v16 σ16 hf16 h => ?_)
        refine r_callVi C g_X2_take hc_2 o_116 ml_X2_42 (mX2_take hl hI  hf16) rfl rfl (by exact Nat.le_of_ble_eq_true rfl) ⟨Nat.le_of_ble_eq_true rfl, Nat.le_of_ble_eq_true rfl, Nat.le_of_ble_eq_true rfl⟩ dX2_parseMembers_102 ?_
        refine r_iconst C ic_m1 dX2_parseMembers_105 ?_
        refine r_ic_eq C (tgt := 113) h (by decide) dX2_parseMembers_106 (fun hc h => ?_) (fun hc h => ?_)
        · refine r_iconst C ic_0 dX2_parseMembers_113 ?_
          exact r_zret C rfl (Nat.le_of_ble_eq_true rfl) (Or.inl rfl) dX2_parseMembers_114 (re_i h)
        · refine r_iconst C ic_1 dX2_parseMembers_109 ?_
          refine r_goto C (tgt := 114) (by decide) dX2_parseMembers_110 ?_
          exact r_zret C rfl (Nat.le_of_ble_eq_true rfl) (Or.inr rfl) dX2_parseMembers_114 (re_i h)
      · refine r_aload_n C dX2_parseMembers_59 rfl ?_
        refine r_iload C dX2_parseMembers_60 rfl ?_
        refine r_iload C dX2_parseMembers_62 rfl ?_
        refine bd_e h (fun v17 σ17 hf17 h => ?_)
        refine r_callVi C g_X2_take hc_2 o_116 ml_X2_42 (mX2_take hl hI  hf17) rfl rfl (by exact Nat.le_of_ble_eq_true rfl) ⟨Nat.le_of_ble_eq_true rfl, Nat.le_of_ble_eq_true rfl, Nat.le_of_ble_eq_true rfl⟩ dX2_parseMembers_64 ?_
        refine r_iconst C ic_m1 dX2_parseMembers_67 ?_
        refine r_ic_eq C (tgt := 81) h (by decide) dX2_parseMembers_68 (fun hc h => ?_) (fun hc h => ?_)
        · exact L81 _ _ _ h
        · refine r_iload_n C dX2_parseMembers_71 rfl ?_
          refine r_iconst C ic_1 dX2_parseMembers_72 ?_
          refine r_iload C dX2_parseMembers_73 rfl ?_
          refine r_bipush C bp_48 dX2_parseMembers_75 ?_
          refine r_isub C dX2_parseMembers_77 ?_
          refine r_ishl C dX2_parseMembers_78 ?_
          refine r_ior C dX2_parseMembers_79 ?_
          refine r_istoreL_n C h (by decide) dX2_parseMembers_80 (fun x18 h => ?_)
          exact L81 _ _ _ h
  refine r_aload_n C dX2_parseMembers_0 rfl ?_
  refine r_bipush C bp_48 dX2_parseMembers_1 ?_
  refine r_bipush C bp_56 dX2_parseMembers_3 ?_
  refine bd_e h (fun v19 σ19 hf19 h => ?_)
  refine r_callVi C g_X2_take hc_2 o_116 ml_X2_42 (mX2_take hl hI  hf19) rfl rfl (by exact Nat.le_of_ble_eq_true rfl) ⟨Nat.le_of_ble_eq_true rfl, Nat.le_of_ble_eq_true rfl, Nat.le_of_ble_eq_true rfl⟩ dX2_parseMembers_5 ?_
  refine r_istore_n C (by decide) dX2_parseMembers_8 ?_
  refine r_iload_n C dX2_parseMembers_9 rfl ?_
  refine r_iconst C ic_m1 dX2_parseMembers_10 ?_
  refine r_ic_ne C (tgt := 16) h (by decide) dX2_parseMembers_11 (fun hc h => ?_) (fun hc h => ?_)
  · refine r_aload_n C dX2_parseMembers_16 rfl ?_
    refine r_iload_n C dX2_parseMembers_17 rfl ?_
    refine r_iconst C ic_1 dX2_parseMembers_18 ?_
    refine r_iadd C dX2_parseMembers_19 ?_
    refine r_bipush C bp_57 dX2_parseMembers_20 ?_
    refine bd_e h (fun v20 σ20 hf20 h => ?_)
    refine r_callVi C g_X2_take hc_2 o_116 ml_X2_42 (mX2_take hl hI  hf20) rfl rfl (by exact Nat.le_of_ble_eq_true rfl) ⟨Nat.le_of_ble_eq_true rfl, Nat.le_of_ble_eq_true rfl, Nat.le_of_ble_eq_true rfl⟩ dX2_parseMembers_22 ?_
    refine r_istore_n C (by decide) dX2_parseMembers_25 ?_
    refine r_iload_n C dX2_parseMembers_26 rfl ?_
    refine r_iconst C ic_m1 dX2_parseMembers_27 ?_
    refine r_ic_ne C (tgt := 33) h (by decide) dX2_parseMembers_28 (fun hc h => ?_) (fun hc h => ?_)
    · refine r_iconst C ic_1 dX2_parseMembers_33 ?_
      refine r_iload_n C dX2_parseMembers_34 rfl ?_
      refine r_bipush C bp_48 dX2_parseMembers_35 ?_
      refine r_isub C dX2_parseMembers_37 ?_
      refine r_ishl C dX2_parseMembers_38 ?_
      refine r_iconst C ic_1 dX2_parseMembers_39 ?_
      refine r_iload_n C dX2_parseMembers_40 rfl ?_
      refine r_bipush C bp_48 dX2_parseMembers_41 ?_
      refine r_isub C dX2_parseMembers_43 ?_
      refine r_ishl C dX2_parseMembers_44 ?_
      refine r_ior C dX2_parseMembers_45 ?_
      refine r_istoreL_n C h (by decide) dX2_parseMembers_46 (fun x21 h => ?_)
      refine r_iload_n C dX2_parseMembers_47 rfl ?_
      refine r_iconst C ic_1 dX2_parseMembers_48 ?_
      refine r_iadd C dX2_parseMembers_49 ?_
      refine r_istore C (by decide) dX2_parseMembers_50 ?_
      refine r_weak C [some (.inr 116), none, none, some (.inl x21), some (.inl (v20 + (1 : Int32)))] ⟨rfl, ⟨rfl, ⟨rfl, trivial⟩⟩⟩ ?_
      exact L52 FU _ _ _ h
    · refine r_iconst C ic_0 dX2_parseMembers_31 ?_
      exact r_zret C rfl (Nat.le_of_ble_eq_true rfl) (Or.inl rfl) dX2_parseMembers_32 (re_i h)
  · refine r_iconst C ic_0 dX2_parseMembers_14 ?_
    exact r_zret C rfl (Nat.le_of_ble_eq_true rfl) (Or.inl rfl) dX2_parseMembers_15 (re_i h)
set_option maxHeartbeats 4000000 in
set_option maxRecDepth 100000 in
theorem mX2_parseNumber {l : Launch} {D : va_G} {ad : Nat → Nat} {cy : Nat → ClassId} (hl : l.stackTraces = false) (hI : Inj ad)   {σ τ : Mem} {r : Int32} (h : fX2_parseNumber σ = some (r, τ)) : Co l D ad cy yX2_parseNumber cX2_parseNumber 5 (Option.some Jvm.ClassFile.FieldType.boolean) 2 122 0 [.ref (ad 116)] σ (zi r) τ := by
  refine co_of (av := [.inr 116]) hl hI (by decide +kernel) (Nat.le_of_ble_eq_true rfl) [some (.inr 116), none, none, none, none] rfl (fun V C => ?_)
  have C : Rl l D ad cy RX2 cX2_parseNumber 5 (Option.some Jvm.ClassFile.FieldType.boolean) 2 122 0 (zi r) τ V := C
  have L97 : ∀ (σ : Mem) (s1 s2 : Int32), fX2_parseNumber_L97   σ s1 s2 = some (r, τ) → V 0 σ 97 [some (.inr 116), none, none, none, none] [.int s2, .int s1, .ref (ad 120)] := by
    intro  σ s1 s2 h
    obtain ⟨hi, h⟩ := ck_e h
    refine r_iast C i_120 hi dX2_parseNumber_97 h (fun σ13 h => ?_)
    refine r_aload_n C dX2_parseNumber_98 rfl ?_
    refine r_bipush C bp_42 dX2_parseNumber_99 ?_
    refine r_bipush C bp_42 dX2_parseNumber_101 ?_
    refine bd_e h (fun v14 σ14 hf14 h => ?_)
    refine r_callVi C g_X2_take hc_2 o_116 ml_X2_42 (mX2_take hl hI  hf14) rfl rfl (by exact Nat.le_of_ble_eq_true rfl) ⟨Nat.le_of_ble_eq_true rfl, Nat.le_of_ble_eq_true rfl, Nat.le_of_ble_eq_true rfl⟩ dX2_parseNumber_103 ?_
    refine r_iconst C ic_m1 dX2_parseNumber_106 ?_
    refine r_ic_eq C (tgt := 114) h (by decide) dX2_parseNumber_107 (fun hc h => ?_) (fun hc h => ?_)
    · refine r_iconst C ic_0 dX2_parseNumber_114 ?_
      exact r_zret C rfl (Nat.le_of_ble_eq_true rfl) (Or.inl rfl) dX2_parseNumber_115 (re_i h)
    · refine r_iconst C ic_1 dX2_parseNumber_110 ?_
      refine r_goto C (tgt := 115) (by decide) dX2_parseNumber_111 ?_
      exact r_zret C rfl (Nat.le_of_ble_eq_true rfl) (Or.inr rfl) dX2_parseNumber_115 (re_i h)
  have L79 : ∀ (σ : Mem) (l1 l3 : Int32), fX2_parseNumber_L79   σ l1 l3 = some (r, τ) → V 0 σ 79 [some (.inr 116), some (.inl l1), none, some (.inl l3), none] [] := by
    intro  σ l1 l3 h
    refine r_aload_n C dX2_parseNumber_79 rfl ?_
    refine r_getR C ck_2 f_116_5 (by decide) fl_X2_29 rfl dX2_parseNumber_80 ?_
    refine r_aload_n C dX2_parseNumber_83 rfl ?_
    refine r_getI C ck_2 f_116_7 (by decide) fl_X2_35 rfl dX2_parseNumber_84 ?_
    refine r_iload_n C dX2_parseNumber_87 rfl ?_
    refine r_if_eq C (tgt := 96) h (by decide) dX2_parseNumber_88 (fun hc h => ?_) (fun hc h => ?_)
    · refine r_iload_n C dX2_parseNumber_96 rfl ?_
      refine r_weak C [some (.inr 116), none, none, none, none] ⟨rfl, trivial⟩ ?_
      exact L97 _ _ _ h
    · refine r_iload_n C dX2_parseNumber_91 rfl ?_
      refine r_ineg C dX2_parseNumber_92 ?_
      refine r_goto C (tgt := 97) (by decide) dX2_parseNumber_93 ?_
      refine r_weak C [some (.inr 116), none, none, none, none] ⟨rfl, trivial⟩ ?_
      exact L97 _ _ _ h
  have L17 : ∀ (σ : Mem) (s0 : Int32), fX2_parseNumber_L17   σ s0 = some (r, τ) → V 0 σ 17 [some (.inr 116), none, none, none, none] [.int s0] := by
    intro  σ s0 h
    refine r_istore_n C (by decide) dX2_parseNumber_17 ?_
    refine r_aload_n C dX2_parseNumber_18 rfl ?_
    refine r_bipush C bp_48 dX2_parseNumber_19 ?_
    refine r_bipush C bp_57 dX2_parseNumber_21 ?_
    refine bd_e h (fun v15 σ15 hf15 h => ?_)
    refine r_callVi C g_X2_take hc_2 o_116 ml_X2_42 (mX2_take hl hI  hf15) rfl rfl (by exact Nat.le_of_ble_eq_true rfl) ⟨Nat.le_of_ble_eq_true rfl, Nat.le_of_ble_eq_true rfl, Nat.le_of_ble_eq_true rfl⟩ dX2_parseNumber_23 ?_
    refine r_istore_n C (by decide) dX2_parseNumber_26 ?_
    refine r_iload_n C dX2_parseNumber_27 rfl ?_
    refine r_iconst C ic_m1 dX2_parseNumber_28 ?_
    refine r_ic_ne C (tgt := 34) h (by decide) dX2_parseNumber_29 (fun hc h => ?_) (fun hc h => ?_)
    · refine r_iload_n C dX2_parseNumber_34 rfl ?_
      refine r_bipush C bp_48 dX2_parseNumber_35 ?_
      refine r_isub C dX2_parseNumber_37 ?_
      refine r_istore_n C (by decide) dX2_parseNumber_38 ?_
      refine r_aload_n C dX2_parseNumber_39 rfl ?_
      refine r_bipush C bp_48 dX2_parseNumber_40 ?_
      refine r_bipush C bp_48 dX2_parseNumber_42 ?_
      refine r_bipush C bp_9 dX2_parseNumber_44 ?_
      refine r_bipush C bp_50 dX2_parseNumber_46 ?_
      refine r_bipush C bp_10 dX2_parseNumber_48 ?_
      refine r_iload_n C dX2_parseNumber_50 rfl ?_
      refine r_imul C dX2_parseNumber_51 ?_
      refine r_isub C dX2_parseNumber_52 ?_
      refine r_mmin C ml_X2_61 gm_min (by decide) (by exact Nat.le_of_ble_eq_true rfl) (by decide) dX2_parseNumber_53 ?_
      refine r_iadd C dX2_parseNumber_56 ?_
      refine bd_e h (fun v16 σ16 hf16 h => ?_)
      refine r_callVi C g_X2_take hc_2 o_116 ml_X2_42 (mX2_take hl hI  hf16) rfl rfl (by exact Nat.le_of_ble_eq_true rfl) ⟨Nat.le_of_ble_eq_true rfl, Nat.le_of_ble_eq_true rfl, Nat.le_of_ble_eq_true rfl⟩ dX2_parseNumber_57 ?_
      refine r_istore C (by decide) dX2_parseNumber_60 ?_
      refine r_iload C dX2_parseNumber_62 rfl ?_
      refine r_iconst C ic_m1 dX2_parseNumber_64 ?_
      refine r_ic_eq C (tgt := 79) h (by decide) dX2_parseNumber_65 (fun hc h => ?_) (fun hc h => ?_)
      · refine r_weak C [some (.inr 116), some (.inl s0), none, some (.inl (v15 - (48 : Int32))), none] ⟨rfl, ⟨rfl, ⟨rfl, trivial⟩⟩⟩ ?_
        exact L79 _ _ _ h
      · refine r_bipush C bp_10 dX2_parseNumber_68 ?_
        refine r_iload_n C dX2_parseNumber_70 rfl ?_
        refine r_imul C dX2_parseNumber_71 ?_
        refine r_iload C dX2_parseNumber_72 rfl ?_
        refine r_iadd C dX2_parseNumber_74 ?_
        refine r_bipush C bp_48 dX2_parseNumber_75 ?_
        refine r_isub C dX2_parseNumber_77 ?_
        refine r_istoreL_n C h (by decide) dX2_parseNumber_78 (fun x17 h => ?_)
        refine r_weak C [some (.inr 116), some (.inl s0), none, some (.inl x17), none] ⟨rfl, ⟨rfl, ⟨rfl, trivial⟩⟩⟩ ?_
        exact L79 _ _ _ h
    · refine r_iconst C ic_0 dX2_parseNumber_32 ?_
      exact r_zret C rfl (Nat.le_of_ble_eq_true rfl) (Or.inl rfl) dX2_parseNumber_33 (re_i h)
  refine r_aload_n C dX2_parseNumber_0 rfl ?_
  refine r_bipush C bp_45 dX2_parseNumber_1 ?_
  refine r_bipush C bp_45 dX2_parseNumber_3 ?_
  refine bd_e h (fun v18 σ18 hf18 h => ?_)
  refine r_callVi C g_X2_take hc_2 o_116 ml_X2_42 (mX2_take hl hI  hf18) rfl rfl (by exact Nat.le_of_ble_eq_true rfl) ⟨Nat.le_of_ble_eq_true rfl, Nat.le_of_ble_eq_true rfl, Nat.le_of_ble_eq_true rfl⟩ dX2_parseNumber_5 ?_
  refine r_iconst C ic_m1 dX2_parseNumber_8 ?_
  refine r_ic_eq C (tgt := 16) h (by decide) dX2_parseNumber_9 (fun hc h => ?_) (fun hc h => ?_)
  · refine r_iconst C ic_0 dX2_parseNumber_16 ?_
    exact L17 _ _ h
  · refine r_iconst C ic_1 dX2_parseNumber_12 ?_
    refine r_goto C (tgt := 17) (by decide) dX2_parseNumber_13 ?_
    exact L17 _ _ h
set_option maxHeartbeats 4000000 in
set_option maxRecDepth 100000 in
theorem mX2_parseWeight {l : Launch} {D : va_G} {ad : Nat → Nat} {cy : Nat → ClassId} (hl : l.stackTraces = false) (hI : Inj ad)   {σ τ : Mem} {r : Int32} (h : fX2_parseWeight σ = some (r, τ)) : Co l D ad cy yX2_parseWeight cX2_parseWeight 2 (Option.some Jvm.ClassFile.FieldType.boolean) 2 122 0 [.ref (ad 116)] σ (zi r) τ := by
  refine co_of (av := [.inr 116]) hl hI (by decide +kernel) (Nat.le_of_ble_eq_true rfl) [some (.inr 116), none] rfl (fun V C => ?_)
  have C : Rl l D ad cy RX2 cX2_parseWeight 2 (Option.some Jvm.ClassFile.FieldType.boolean) 2 122 0 (zi r) τ V := C
  refine r_aload_n C dX2_parseWeight_0 rfl ?_
  refine r_bipush C bp_49 dX2_parseWeight_1 ?_
  refine r_bipush C bp_57 dX2_parseWeight_3 ?_
  refine bd_e h (fun v5 σ5 hf5 h => ?_)
  refine r_callVi C g_X2_take hc_2 o_116 ml_X2_42 (mX2_take hl hI  hf5) rfl rfl (by exact Nat.le_of_ble_eq_true rfl) ⟨Nat.le_of_ble_eq_true rfl, Nat.le_of_ble_eq_true rfl, Nat.le_of_ble_eq_true rfl⟩ dX2_parseWeight_5 ?_
  refine r_istore_n C (by decide) dX2_parseWeight_8 ?_
  refine r_aload_n C dX2_parseWeight_9 rfl ?_
  refine r_getR C ck_2 f_116_6 (by decide) fl_X2_32 rfl dX2_parseWeight_10 ?_
  refine r_aload_n C dX2_parseWeight_13 rfl ?_
  refine r_getI C ck_2 f_116_7 (by decide) fl_X2_35 rfl dX2_parseWeight_14 ?_
  refine r_iload_n C dX2_parseWeight_17 rfl ?_
  refine r_bipush C bp_48 dX2_parseWeight_18 ?_
  refine r_isub C dX2_parseWeight_20 ?_
  obtain ⟨hi, h⟩ := ck_e h
  refine r_iast C i_121 hi dX2_parseWeight_21 h (fun σ6 h => ?_)
  refine r_iload_n C dX2_parseWeight_22 rfl ?_
  refine r_iconst C ic_m1 dX2_parseWeight_23 ?_
  refine r_ic_eq C (tgt := 31) h (by decide) dX2_parseWeight_24 (fun hc h => ?_) (fun hc h => ?_)
  · refine r_iconst C ic_0 dX2_parseWeight_31 ?_
    exact r_zret C rfl (Nat.le_of_ble_eq_true rfl) (Or.inl rfl) dX2_parseWeight_32 (re_i h)
  · refine r_iconst C ic_1 dX2_parseWeight_27 ?_
    refine r_goto C (tgt := 32) (by decide) dX2_parseWeight_28 ?_
    exact r_zret C rfl (Nat.le_of_ble_eq_true rfl) (Or.inr rfl) dX2_parseWeight_32 (re_i h)
set_option maxHeartbeats 4000000 in
set_option maxRecDepth 100000 in
theorem mX2_parseEntry {l : Launch} {D : va_G} {ad : Nat → Nat} {cy : Nat → ClassId} (hl : l.stackTraces = false) (hI : Inj ad)   {σ τ : Mem} {r : Int32} (h : fX2_parseEntry σ = some (r, τ)) : Co l D ad cy yX2_parseEntry cX2_parseEntry 1 (Option.some Jvm.ClassFile.FieldType.boolean) 3 146 0 [.ref (ad 116)] σ (zi r) τ := by
  refine co_of (av := [.inr 116]) hl hI (by decide +kernel) (Nat.le_of_ble_eq_true rfl) [some (.inr 116)] rfl (fun V C => ?_)
  have C : Rl l D ad cy RX2 cX2_parseEntry 1 (Option.some Jvm.ClassFile.FieldType.boolean) 3 146 0 (zi r) τ V := C
  have L49 : ∀ (σ : Mem), fX2_parseEntry_L49   σ  = some (r, τ) → V 0 σ 49 [none] [] := by
    intro  σ  h
    refine r_iconst C ic_0 dX2_parseEntry_49 ?_
    exact r_zret C rfl (Nat.le_of_ble_eq_true rfl) (Or.inl rfl) dX2_parseEntry_50 (re_i h)
  refine r_aload_n C dX2_parseEntry_0 rfl ?_
  refine r_bipush C bp_118 dX2_parseEntry_1 ?_
  refine r_bipush C bp_118 dX2_parseEntry_3 ?_
  refine bd_e h (fun v13 σ13 hf13 h => ?_)
  refine r_callVi C g_X2_take hc_2 o_116 ml_X2_42 (mX2_take hl hI  hf13) rfl rfl (by exact Nat.le_of_ble_eq_true rfl) ⟨Nat.le_of_ble_eq_true rfl, Nat.le_of_ble_eq_true rfl, Nat.le_of_ble_eq_true rfl⟩ dX2_parseEntry_5 ?_
  refine r_iconst C ic_m1 dX2_parseEntry_8 ?_
  refine r_ic_eq C (tgt := 17) h (by decide) dX2_parseEntry_9 (fun hc h => ?_) (fun hc h => ?_)
  · refine r_aload_n C dX2_parseEntry_17 rfl ?_
    refine bd_e h (fun v14 σ14 hf14 h => ?_)
    refine r_callVi C g_X2_parseKind hc_2 o_116 ml_X2_49 (mX2_parseKind hl hI  hf14) rfl rfl (by exact Nat.le_of_ble_eq_true rfl) ⟨Nat.le_of_ble_eq_true rfl, Nat.le_of_ble_eq_true rfl, Nat.le_of_ble_eq_true rfl⟩ dX2_parseEntry_18 ?_
    refine r_if_eq C (tgt := 49) h (by decide) dX2_parseEntry_21 (fun hc h => ?_) (fun hc h => ?_)
    · refine r_weak C [none] trivial ?_
      exact L49 _ h
    · refine r_aload_n C dX2_parseEntry_24 rfl ?_
      refine bd_e h (fun v15 σ15 hf15 h => ?_)
      refine r_callVi C g_X2_parseMembers hc_2 o_116 ml_X2_52 (mX2_parseMembers hl hI  hf15) rfl rfl (by exact Nat.le_of_ble_eq_true rfl) ⟨Nat.le_of_ble_eq_true rfl, Nat.le_of_ble_eq_true rfl, Nat.le_of_ble_eq_true rfl⟩ dX2_parseEntry_25 ?_
      refine r_if_eq C (tgt := 49) h (by decide) dX2_parseEntry_28 (fun hc h => ?_) (fun hc h => ?_)
      · refine r_weak C [none] trivial ?_
        exact L49 _ h
      · refine r_aload_n C dX2_parseEntry_31 rfl ?_
        refine bd_e h (fun v16 σ16 hf16 h => ?_)
        refine r_callVi C g_X2_parseNumber hc_2 o_116 ml_X2_55 (mX2_parseNumber hl hI  hf16) rfl rfl (by exact Nat.le_of_ble_eq_true rfl) ⟨Nat.le_of_ble_eq_true rfl, Nat.le_of_ble_eq_true rfl, Nat.le_of_ble_eq_true rfl⟩ dX2_parseEntry_32 ?_
        refine r_if_eq C (tgt := 49) h (by decide) dX2_parseEntry_35 (fun hc h => ?_) (fun hc h => ?_)
        · refine r_weak C [none] trivial ?_
          exact L49 _ h
        · refine r_aload_n C dX2_parseEntry_38 rfl ?_
          refine bd_e h (fun v17 σ17 hf17 h => ?_)
          refine r_callVi C g_X2_parseWeight hc_2 o_116 ml_X2_58 (mX2_parseWeight hl hI  hf17) rfl rfl (by exact Nat.le_of_ble_eq_true rfl) ⟨Nat.le_of_ble_eq_true rfl, Nat.le_of_ble_eq_true rfl, Nat.le_of_ble_eq_true rfl⟩ dX2_parseEntry_39 ?_
          refine r_if_eq C (tgt := 49) h (by decide) dX2_parseEntry_42 (fun hc h => ?_) (fun hc h => ?_)
          · refine r_weak C [none] trivial ?_
            exact L49 _ h
          · refine r_iconst C ic_1 dX2_parseEntry_45 ?_
            refine r_goto C (tgt := 50) (by decide) dX2_parseEntry_46 ?_
            exact r_zret C rfl (Nat.le_of_ble_eq_true rfl) (Or.inr rfl) dX2_parseEntry_50 (re_i h)
  · refine r_aload_n C dX2_parseEntry_12 rfl ?_
    refine bd_e h (fun v18 σ18 hf18 h => ?_)
    refine r_callVi C g_X2_parseSize hc_2 o_116 ml_X2_46 (mX2_parseSize hl hI  hf18) rfl rfl (by exact Nat.le_of_ble_eq_true rfl) ⟨Nat.le_of_ble_eq_true rfl, Nat.le_of_ble_eq_true rfl, Nat.le_of_ble_eq_true rfl⟩ dX2_parseEntry_13 ?_
    obtain ⟨hz, h⟩ := ckz_e h
    exact r_zret C rfl (Nat.le_of_ble_eq_true rfl) hz dX2_parseEntry_16 (re_i h)
set_option maxHeartbeats 4000000 in
set_option maxRecDepth 100000 in
theorem mX2_parse {l : Launch} {D : va_G} {ad : Nat → Nat} {cy : Nat → ClassId} (hl : l.stackTraces = false) (hI : Inj ad)   {σ τ : Mem} {r : Int32} (h : fX2_parse σ = some (r, τ)) : Co l D ad cy yX2_parse cX2_parse 1 (Option.some Jvm.ClassFile.FieldType.boolean) 4 166 0 [.ref (ad 116)] σ (zi r) τ := by
  refine co_of (av := [.inr 116]) hl hI (by decide +kernel) (Nat.le_of_ble_eq_true rfl) [some (.inr 116)] rfl (fun V C => ?_)
  have C : Rl l D ad cy RX2 cX2_parse 1 (Option.some Jvm.ClassFile.FieldType.boolean) 4 166 0 (zi r) τ V := C
  have L38 : ∀ (σ : Mem), fX2_parse_L38   σ  = some (r, τ) → V 0 σ 38 [none] [] := by
    intro  σ  h
    refine r_iconst C ic_0 dX2_parse_38 ?_
    exact r_zret C rfl (Nat.le_of_ble_eq_true rfl) (Or.inl rfl) dX2_parse_39 (re_i h)
  have L10 : ∀ (n : Nat) (σ : Mem), fX2_parse_L10  n σ  = some (r, τ) → V 0 σ 10 [some (.inr 116)] [] := by
    intro n10
    induction n10 with
    | zero => intro σ  h; exact no_e h
    | succ n10 ih10 =>
      intro σ  h
      have h : fX2_parse_B10  (fX2_parse_L10  n10) σ  = some (r, τ) := h
      refine r_aload_n C dX2_parse_10 rfl ?_
      refine r_getI C ck_2 f_116_7 (by decide) fl_X2_35 rfl dX2_parse_11 ?_
      refine r_bipush C bp_20 dX2_parse_14 ?_
      refine r_ic_ge C (tgt := 63) h (by decide) dX2_parse_16 (fun hc h => ?_) (fun hc h => ?_)
      · refine r_iconst C ic_0 dX2_parse_63 ?_
        exact r_zret C rfl (Nat.le_of_ble_eq_true rfl) (Or.inl rfl) dX2_parse_64 (re_i h)
      · refine r_aload_n C dX2_parse_19 rfl ?_
        refine bd_e h (fun v11 σ11 hf11 h => ?_)
        refine r_callVi C g_X2_parseEntry hc_2 o_116 ml_X2_38 (mX2_parseEntry hl hI  hf11) rfl rfl (by exact Nat.le_of_ble_eq_true rfl) ⟨Nat.le_of_ble_eq_true rfl, Nat.le_of_ble_eq_true rfl, Nat.le_of_ble_eq_true rfl⟩ dX2_parse_20 ?_
        refine r_if_eq C (tgt := 38) h (by decide) dX2_parse_23 (fun hc h => ?_) (fun hc h => ?_)
        · refine r_weak C [none] trivial ?_
          exact L38 _ h
        · refine r_aload_n C dX2_parse_26 rfl ?_
          refine r_bipush C bp_59 dX2_parse_27 ?_
          refine r_bipush C bp_59 dX2_parse_29 ?_
          refine bd_e h (fun v12 σ12 hf12 h => ?_)
          refine r_callVi C g_X2_take hc_2 o_116 ml_X2_42 (mX2_take hl hI  hf12) rfl rfl (by exact Nat.le_of_ble_eq_true rfl) ⟨Nat.le_of_ble_eq_true rfl, Nat.le_of_ble_eq_true rfl, Nat.le_of_ble_eq_true rfl⟩ dX2_parse_31 ?_
          refine r_iconst C ic_m1 dX2_parse_34 ?_
          refine r_ic_ne C (tgt := 40) h (by decide) dX2_parse_35 (fun hc h => ?_) (fun hc h => ?_)
          · refine r_aload_n C dX2_parse_40 rfl ?_
            refine r_dup C rfl dX2_parse_41 ?_
            refine r_getI C ck_2 f_116_7 (by decide) fl_X2_35 rfl dX2_parse_42 ?_
            refine r_iconst C ic_1 dX2_parse_45 ?_
            refine r_iadd C dX2_parse_46 ?_
            refine r_putI C ck_2 f_116_7 (by decide) fl_X2_35 rfl rfl rfl rfl rfl dX2_parse_47 h (fun σ13 h => ?_)
            refine r_aload_n C dX2_parse_50 rfl ?_
            refine r_getI C ck_2 f_116_2 (by decide) fl_X2_19 rfl dX2_parse_51 ?_
            refine r_aload_n C dX2_parse_54 rfl ?_
            refine r_getI C ck_2 f_116_1 (by decide) fl_X2_15 rfl dX2_parse_55 ?_
            refine r_ic_ne C (tgt := 10) h (by decide) dX2_parse_58 (fun hc h => ?_) (fun hc h => ?_)
            · exact ih10 _ h
            · refine r_iconst C ic_1 dX2_parse_61 ?_
              exact r_zret C rfl (Nat.le_of_ble_eq_true rfl) (Or.inr rfl) dX2_parse_62 (re_i h)
          · refine r_weak C [none] trivial ?_
            exact L38 _ h
  refine r_aload_n C dX2_parse_0 rfl ?_
  refine r_iconst C ic_0 dX2_parse_1 ?_
  refine r_putI C ck_2 f_116_2 (by decide) fl_X2_19 rfl rfl rfl rfl rfl dX2_parse_2 h (fun σ14 h => ?_)
  refine r_aload_n C dX2_parse_5 rfl ?_
  refine r_iconst C ic_0 dX2_parse_6 ?_
  refine r_putI C ck_2 f_116_7 (by decide) fl_X2_35 rfl rfl rfl rfl rfl dX2_parse_7 h (fun σ15 h => ?_)
  exact L10 FU _ h
set_option maxHeartbeats 4000000 in
set_option maxRecDepth 100000 in
theorem mX2_fits {l : Launch} {D : va_G} {ad : Nat → Nat} {cy : Nat → ClassId} (hl : l.stackTraces = false) (hI : Inj ad)   {σ τ : Mem} {r : Int32} (h : fX2_fits σ = some (r, τ)) : Co l D ad cy yX2_fits cX2_fits 5 (Option.some Jvm.ClassFile.FieldType.boolean) 2 121 0 [.ref (ad 116), .ref (ad 1)] σ (zi r) τ := by
  refine co_of (av := [.inr 116, .inr 1]) hl hI (by decide +kernel) (Nat.le_of_ble_eq_true rfl) [some (.inr 116), some (.inr 1), none, none, none] rfl (fun V C => ?_)
  have C : Rl l D ad cy RX2 cX2_fits 5 (Option.some Jvm.ClassFile.FieldType.boolean) 2 121 0 (zi r) τ V := C
  have L83 : ∀ (σ : Mem), fX2_fits_L83   σ  = some (r, τ) → V 0 σ 83 [none, none, none, none, none] [] := by
    intro  σ  h
    refine r_iconst C ic_0 dX2_fits_83 ?_
    exact r_zret C rfl (Nat.le_of_ble_eq_true rfl) (Or.inl rfl) dX2_fits_84 (re_i h)
  have L13 : ∀ (n : Nat) (σ : Mem) (l2 l3 l4 : Int32), fX2_fits_L13  n σ l2 l3 l4 = some (r, τ) → V 0 σ 13 [some (.inr 116), none, some (.inl l2), some (.inl l3), some (.inl l4)] [] := by
    intro n13
    induction n13 with
    | zero => intro σ l2 l3 l4 h; exact no_e h
    | succ n13 ih13 =>
      have L61 : ∀ (σ : Mem) (l2 l3 l4 : Int32), fX2_fits_L61 (fX2_fits_L13  n13)  σ l2 l3 l4 = some (r, τ) → V 0 σ 61 [some (.inr 116), none, some (.inl l2), some (.inl l3), some (.inl l4)] [] := by
        intro  σ l2 l3 l4 h
        refine r_iinc C ic_1 (by decide) dX2_fits_61 rfl ?_
        refine r_goto C (tgt := 13) (by decide) dX2_fits_64 ?_
        exact ih13 _ _ _ _ h
      intro σ l2 l3 l4 h
      have h : fX2_fits_B13  (fX2_fits_L13  n13) σ l2 l3 l4 = some (r, τ) := h
      refine r_iload C dX2_fits_13 rfl ?_
      refine r_aload_n C dX2_fits_15 rfl ?_
      refine r_getI C ck_2 f_116_7 (by decide) fl_X2_35 rfl dX2_fits_16 ?_
      refine r_ic_ge C (tgt := 67) h (by decide) dX2_fits_19 (fun hc h => ?_) (fun hc h => ?_)
      · refine r_iload_n C dX2_fits_67 rfl ?_
        refine r_bipush C bp_10 dX2_fits_68 ?_
        refine r_ic_gt C (tgt := 83) h (by decide) dX2_fits_70 (fun hc h => ?_) (fun hc h => ?_)
        · refine r_weak C [none, none, none, none, none] trivial ?_
          exact L83 _ h
        · refine r_iload_n C dX2_fits_73 rfl ?_
          refine r_bipush C bp_20 dX2_fits_74 ?_
          refine r_ic_gt C (tgt := 83) h (by decide) dX2_fits_76 (fun hc h => ?_) (fun hc h => ?_)
          · refine r_weak C [none, none, none, none, none] trivial ?_
            exact L83 _ h
          · refine r_iconst C ic_1 dX2_fits_79 ?_
            refine r_goto C (tgt := 84) (by decide) dX2_fits_80 ?_
            exact r_zret C rfl (Nat.le_of_ble_eq_true rfl) (Or.inr rfl) dX2_fits_84 (re_i h)
      · refine r_aload_n C dX2_fits_22 rfl ?_
        refine r_getR C ck_2 f_116_3 (by decide) fl_X2_22 rfl dX2_fits_23 ?_
        refine r_iload C dX2_fits_26 rfl ?_
        obtain ⟨hi, h⟩ := ck_e h
        refine r_iald C i_118 hi dX2_fits_28 ?_
        refine r_iconst C ic_m1 dX2_fits_29 ?_
        refine r_ic_ne C (tgt := 39) h (by decide) dX2_fits_30 (fun hc h => ?_) (fun hc h => ?_)
        · refine r_aload_n C dX2_fits_39 rfl ?_
          refine r_getR C ck_2 f_116_4 (by decide) fl_X2_26 rfl dX2_fits_40 ?_
          refine r_iload C dX2_fits_43 rfl ?_
          obtain ⟨hi, h⟩ := ck_e h
          refine r_iald C i_119 hi dX2_fits_45 ?_
          refine r_iload_n C dX2_fits_46 rfl ?_
          refine bd_e h (fun v3 σ3 hf3 h => ?_)
          refine r_callN C (host := RX9) g_X9_areMembers (by decide +kernel) (mX9_areMembers hl hI  hf3) rfl rfl (by exact Nat.le_of_ble_eq_true rfl) ⟨Nat.le_of_ble_eq_true rfl, Nat.le_of_ble_eq_true rfl, Nat.le_of_ble_eq_true rfl⟩ dX2_fits_47 ?_
          refine r_if_eq C (tgt := 59) h (by decide) dX2_fits_50 (fun hc h => ?_) (fun hc h => ?_)
          · refine r_iconst C ic_0 dX2_fits_59 ?_
            exact r_zret C rfl (Nat.le_of_ble_eq_true rfl) (Or.inl rfl) dX2_fits_60 (re_i h)
          · refine r_iinc C ic_1 (by decide) dX2_fits_53 rfl ?_
            refine r_goto C (tgt := 61) (by decide) dX2_fits_56 ?_
            exact L61 _ _ _ _ h
        · refine r_iinc C ic_1 (by decide) dX2_fits_33 rfl ?_
          refine r_goto C (tgt := 61) (by decide) dX2_fits_36 ?_
          exact L61 _ _ _ _ h
  refine r_aload_n C dX2_fits_0 rfl ?_
  refine r_getI C ck_4 f_1_7 (by decide) fl_X2_66 rfl dX2_fits_1 ?_
  refine r_istore_n C (by decide) dX2_fits_4 ?_
  refine r_aload_n C dX2_fits_5 rfl ?_
  refine r_getI C ck_4 f_1_8 (by decide) fl_X2_71 rfl dX2_fits_6 ?_
  refine r_istore_n C (by decide) dX2_fits_9 ?_
  refine r_iconst C ic_0 dX2_fits_10 ?_
  refine r_istore C (by decide) dX2_fits_11 ?_
  refine r_weak C [some (.inr 116), none, some (.inl (σ 1 7)), some (.inl (σ 1 8)), some (.inl (0 : Int32))] ⟨rfl, ⟨rfl, ⟨rfl, ⟨rfl, trivial⟩⟩⟩⟩ ?_
  exact L13 FU _ _ _ _ h
set_option maxHeartbeats 4000000 in
set_option maxRecDepth 100000 in
theorem mX2_addTo {l : Launch} {D : va_G} {ad : Nat → Nat} {cy : Nat → ClassId} (hl : l.stackTraces = false) (hI : Inj ad)   {σ τ : Mem} (h : fX2_addTo σ = some τ) : Co l D ad cy yX2_addTo cX2_addTo 3 (Option.none : Option Jvm.ClassFile.FieldType) 2 124 0 [.ref (ad 116), .ref (ad 1)] σ (zv) τ := by
  refine co_of (av := [.inr 116, .inr 1]) hl hI (by decide +kernel) (Nat.le_of_ble_eq_true rfl) [some (.inr 116), some (.inr 1), none] rfl (fun V C => ?_)
  have C : Rl l D ad cy RX2 cX2_addTo 3 (Option.none : Option Jvm.ClassFile.FieldType) 2 124 0 (zv) τ V := C
  have L2 : ∀ (n : Nat) (σ : Mem) (l2 : Int32), fX2_addTo_L2  n σ l2 = some τ → V 0 σ 2 [some (.inr 116), some (.inr 1), some (.inl l2)] [] := by
    intro n2
    induction n2 with
    | zero => intro σ l2 h; exact no_e h
    | succ n2 ih2 =>
      have L61 : ∀ (σ : Mem) (l2 : Int32), fX2_addTo_L61 (fX2_addTo_L2  n2)  σ l2 = some τ → V 0 σ 61 [some (.inr 116), some (.inr 1), some (.inl l2)] [] := by
        intro  σ l2 h
        refine r_iinc C ic_1 (by decide) dX2_addTo_61 rfl ?_
        refine r_goto C (tgt := 2) (by decide) dX2_addTo_64 ?_
        exact ih2 _ _ h
      intro σ l2 h
      have h : fX2_addTo_B2  (fX2_addTo_L2  n2) σ l2 = some τ := h
      refine r_iload_n C dX2_addTo_2 rfl ?_
      refine r_aload_n C dX2_addTo_3 rfl ?_
      refine r_getI C ck_2 f_116_7 (by decide) fl_X2_35 rfl dX2_addTo_4 ?_
      refine r_ic_ge C (tgt := 67) h (by decide) dX2_addTo_7 (fun hc h => ?_) (fun hc h => ?_)
      · exact r_vret C rfl (Nat.le_of_ble_eq_true rfl) dX2_addTo_67 (re_v h)
      · refine r_aload_n C dX2_addTo_10 rfl ?_
        refine r_getR C ck_2 f_116_3 (by decide) fl_X2_22 rfl dX2_addTo_11 ?_
        refine r_iload_n C dX2_addTo_14 rfl ?_
        obtain ⟨hi, h⟩ := ck_e h
        refine r_iald C i_118 hi dX2_addTo_15 ?_
        refine r_iconst C ic_m1 dX2_addTo_16 ?_
        refine r_ic_ne C (tgt := 33) h (by decide) dX2_addTo_17 (fun hc h => ?_) (fun hc h => ?_)
        · refine r_aload_n C dX2_addTo_33 rfl ?_
          refine r_aload_n C dX2_addTo_34 rfl ?_
          refine r_getR C ck_2 f_116_3 (by decide) fl_X2_22 rfl dX2_addTo_35 ?_
          refine r_iload_n C dX2_addTo_38 rfl ?_
          obtain ⟨hi, h⟩ := ck_e h
          refine r_iald C i_118 hi dX2_addTo_39 ?_
          refine r_aload_n C dX2_addTo_40 rfl ?_
          refine r_getR C ck_2 f_116_4 (by decide) fl_X2_26 rfl dX2_addTo_41 ?_
          refine r_iload_n C dX2_addTo_44 rfl ?_
          obtain ⟨hi, h⟩ := ck_e h
          refine r_iald C i_119 hi dX2_addTo_45 ?_
          refine r_aload_n C dX2_addTo_46 rfl ?_
          refine r_getR C ck_2 f_116_5 (by decide) fl_X2_29 rfl dX2_addTo_47 ?_
          refine r_iload_n C dX2_addTo_50 rfl ?_
          obtain ⟨hi, h⟩ := ck_e h
          refine r_iald C i_120 hi dX2_addTo_51 ?_
          refine r_aload_n C dX2_addTo_52 rfl ?_
          refine r_getR C ck_2 f_116_6 (by decide) fl_X2_32 rfl dX2_addTo_53 ?_
          refine r_iload_n C dX2_addTo_56 rfl ?_
          obtain ⟨hi, h⟩ := ck_e h
          refine r_iald C i_121 hi dX2_addTo_57 ?_
          refine bv_e h (fun σ5 hf5 h => ?_)
          refine r_callVv C g_X4_putConstraint hc_4 o_1 ml_X2_82 (mX4_putConstraint hl hI  hf5) rfl rfl (by exact Nat.le_of_ble_eq_true rfl) ⟨Nat.le_of_ble_eq_true rfl, Nat.le_of_ble_eq_true rfl, Nat.le_of_ble_eq_true rfl⟩ dX2_addTo_58 ?_
          exact L61 _ _ h
        · refine r_aload_n C dX2_addTo_20 rfl ?_
          refine r_aload_n C dX2_addTo_21 rfl ?_
          refine r_getR C ck_2 f_116_5 (by decide) fl_X2_29 rfl dX2_addTo_22 ?_
          refine r_iload_n C dX2_addTo_25 rfl ?_
          obtain ⟨hi, h⟩ := ck_e h
          refine r_iald C i_120 hi dX2_addTo_26 ?_
          refine bv_e h (fun σ6 hf6 h => ?_)
          refine r_callVv C g_X4_putVariable hc_4 o_1 ml_X2_78 (mX4_putVariable hl hI  hf6) rfl rfl (by exact Nat.le_of_ble_eq_true rfl) ⟨Nat.le_of_ble_eq_true rfl, Nat.le_of_ble_eq_true rfl, Nat.le_of_ble_eq_true rfl⟩ dX2_addTo_27 ?_
          refine r_goto C (tgt := 61) (by decide) dX2_addTo_30 ?_
          exact L61 _ _ h
  refine r_iconst C ic_0 dX2_addTo_0 ?_
  refine r_istore_n C (by decide) dX2_addTo_1 ?_
  exact L2 FU _ _ h
