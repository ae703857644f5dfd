/-! THE PURE FUNCTIONS (by program out of the bytecode): what each method makes of the memory; none where the machine itself would throw, or where a loop has not ended. -/
def fX4_removeAll  (σ : Mem) : Option (Mem) :=
    lt (mst σ 1 7 (0 : Int32)) fun σ3 =>
    lt (mst σ3 1 8 (0 : Int32)) fun σ4 =>
    some σ4
def fX1_forget  (σ : Mem) : Option (Mem) :=
    lt (mst σ 81 2 (0 : Int32)) fun σ2 =>
    some σ2
def fX5_reset  (σ : Mem) : Option (Mem) :=
    lt (mst σ 83 0 (15 : Int32)) fun σ5 =>
    lt (mst σ5 83 1 (3 : Int32)) fun σ6 =>
    lt (mst σ6 83 2 (20 : Int32)) fun σ7 =>
    lt (mst σ7 83 3 (1 : Int32)) fun σ8 =>
    some σ8
def fX6_forget  (σ : Mem) : Option (Mem) :=
    lt (mst σ 104 2 (0 : Int32)) fun σ2 =>
    some σ2
def fJ7_fill_53178_B5 (q0 nn0 : Nat)  (r5 : Mem → Int32 → Int32 → Int32 → Option (Mem)) (σ : Mem) (l1 l2 l3 : Int32) : Option (Mem) :=
    if l3 ≤ l2 then (some σ)
    else (ck l2 nn0 (lt (mst σ q0 l2.toNatClampNeg l1) fun σ2 =>
    r5 σ2 l1 (l2 + (1 : Int32)) l3))
def fJ7_fill_53178_L5 (q0 nn0 : Nat)  (n : Nat) : Mem → Int32 → Int32 → Int32 → Option (Mem) := fx (fJ7_fill_53178_B5 q0 nn0) (fun _ _ _ _ => none) n
def fJ7_fill_53178 (q0 nn0 : Nat) (σ : Mem) (a1 : Int32) : Option (Mem) :=
    fJ7_fill_53178_L5 q0 nn0 FU σ a1 (0 : Int32) (Int32.ofNat nn0)
def fX8_freeAll_B2   (r2 : Mem → Int32 → Option (Mem)) (σ : Mem) (l1 : Int32) : Option (Mem) :=
    if (10 : Int32) ≤ l1 then (some σ)
    else (ck l1 10 (bv (fJ7_fill_53178 (88 + 1 * l1.toNatClampNeg) 8 σ (0 : Int32)) fun σ4 =>
    r2 σ4 (l1 + (1 : Int32))))
def fX8_freeAll_L2   (n : Nat) : Mem → Int32 → Option (Mem) := fx (fX8_freeAll_B2 ) (fun _ _ => none) n
def fX8_freeAll  (σ : Mem) : Option (Mem) :=
    fX8_freeAll_L2  FU σ (0 : Int32)
def fX4_gather_L45 (q2 : Nat) (r13 : Mem → Int32 → Int32 → Int32 → Option (Int32 × Mem))  (σ : Mem) (l3 l4 l5 : Int32) : Option (Int32 × Mem) :=
    r13 σ l3 l4 (l5 + (1 : Int32))
def fX4_gather_B13 (q2 : Nat)  (r13 : Mem → Int32 → Int32 → Int32 → Option (Int32 × Mem)) (σ : Mem) (l3 l4 l5 : Int32) : Option (Int32 × Mem) :=
    if (σ 1 7) ≤ l5 then (some (l4, σ))
    else (if ((l3 >>> (l5 &&& 31)) &&& (1 : Int32)) = 0 then (fX4_gather_L45 q2 r13 σ l3 l4 l5)
    else (ck l5 10 (ck l4 10 (lt (mst σ 8 l4.toNatClampNeg (σ q2 l5.toNatClampNeg)) fun σ2 =>
    fX4_gather_L45 q2 r13 σ2 l3 (l4 + (1 : Int32)) l5))))
def fX4_gather_L13 (q2 : Nat)  (n : Nat) : Mem → Int32 → Int32 → Int32 → Option (Int32 × Mem) := fx (fX4_gather_B13 q2) (fun _ _ _ _ => none) n
def fX4_gather (q2 : Nat) (σ : Mem) (a1 : Int32) : Option (Int32 × Mem) :=
    ck a1 20 (fX4_gather_L13 q2 FU σ (σ 5 a1.toNatClampNeg) (0 : Int32) (0 : Int32))
def fX4_closePairs_L46  (r5 : Mem → Int32 → Int32 → Int32 → Int32 → Option (Int32 × Mem)) (r14 : Mem → Int32 → Int32 → Int32 → Int32 → Int32 → Option (Int32 × Mem))  (σ : Mem) (l1 l2 l3 l4 l5 : Int32) : Option (Int32 × Mem) :=
    r14 σ l1 l2 l3 l4 (l5 + (1 : Int32))
def fX4_closePairs_B14  (r5 : Mem → Int32 → Int32 → Int32 → Int32 → Option (Int32 × Mem)) (r14 : Mem → Int32 → Int32 → Int32 → Int32 → Int32 → Option (Int32 × Mem)) (σ : Mem) (l1 l2 l3 l4 l5 : Int32) : Option (Int32 × Mem) :=
    if l4 ≤ l5 then (r5 σ l1 l2 l3 (l4 + (1 : Int32)))
    else (ck l4 10 (ck l5 10 (if l2 ≤ (if 0 ≤ ((σ 8 l4.toNatClampNeg) - (σ 8 l5.toNatClampNeg)) then ((σ 8 l4.toNatClampNeg) - (σ 8 l5.toNatClampNeg)) else 0 - ((σ 8 l4.toNatClampNeg) - (σ 8 l5.toNatClampNeg))) then (fX4_closePairs_L46 r5 r14 σ l1 l2 l3 l4 l5)
    else (fX4_closePairs_L46 r5 r14 σ l1 l2 (l3 + (1 : Int32)) l4 l5))))
def fX4_closePairs_L14  (r5 : Mem → Int32 → Int32 → Int32 → Int32 → Option (Int32 × Mem)) (n : Nat) : Mem → Int32 → Int32 → Int32 → Int32 → Int32 → Option (Int32 × Mem) := fx (fX4_closePairs_B14 r5) (fun _ _ _ _ _ _ => none) n
def fX4_closePairs_B5   (r5 : Mem → Int32 → Int32 → Int32 → Int32 → Option (Int32 × Mem)) (σ : Mem) (l1 l2 l3 l4 : Int32) : Option (Int32 × Mem) :=
    if l1 ≤ l4 then (some (l3, σ))
    else (fX4_closePairs_L14 r5 FU σ l1 l2 l3 l4 (0 : Int32))
def fX4_closePairs_L5   (n : Nat) : Mem → Int32 → Int32 → Int32 → Int32 → Option (Int32 × Mem) := fx (fX4_closePairs_B5 ) (fun _ _ _ _ _ => none) n
def fX4_closePairs  (σ : Mem) (a1 a2 : Int32) : Option (Int32 × Mem) :=
    fX4_closePairs_L5  FU σ a1 a2 (0 : Int32) (1 : Int32)
def fX4_sum_B4   (r4 : Mem → Int32 → Int32 → Int32 → Option (Int32 × Mem)) (σ : Mem) (l1 l2 l3 : Int32) : Option (Int32 × Mem) :=
    if l1 ≤ l3 then (some (l2, σ))
    else (ck l3 10 (li (l2 + (σ 8 l3.toNatClampNeg)) fun x2 =>
    r4 σ l1 x2 (l3 + (1 : Int32))))
def fX4_sum_L4   (n : Nat) : Mem → Int32 → Int32 → Int32 → Option (Int32 × Mem) := fx (fX4_sum_B4 ) (fun _ _ _ _ => none) n
def fX4_sum  (σ : Mem) (a1 : Int32) : Option (Int32 × Mem) :=
    fX4_sum_L4  FU σ a1 (0 : Int32) (0 : Int32)
def fX4_descents_L35  (r5 : Mem → Int32 → Int32 → Int32 → Int32 → Option (Int32 × Mem))  (σ : Mem) (l1 l2 l3 l4 : Int32) : Option (Int32 × Mem) :=
    r5 σ l1 l2 l3 (l4 + (1 : Int32))
def fX4_descents_B5   (r5 : Mem → Int32 → Int32 → Int32 → Int32 → Option (Int32 × Mem)) (σ : Mem) (l1 l2 l3 l4 : Int32) : Option (Int32 × Mem) :=
    if l1 ≤ l4 then (some (l3, σ))
    else (ck l4 10 (ck (l4 - (1 : Int32)) 10 (if (l2 + (σ 8 (l4 - (1 : Int32)).toNatClampNeg)) ≤ (σ 8 l4.toNatClampNeg) then (fX4_descents_L35 r5 σ l1 l2 l3 l4)
    else (fX4_descents_L35 r5 σ l1 l2 (l3 + (1 : Int32)) l4))))
def fX4_descents_L5   (n : Nat) : Mem → Int32 → Int32 → Int32 → Int32 → Option (Int32 × Mem) := fx (fX4_descents_B5 ) (fun _ _ _ _ _ => none) n
def fX4_descents  (σ : Mem) (a1 a2 : Int32) : Option (Int32 × Mem) :=
    fX4_descents_L5  FU σ a1 a2 (0 : Int32) (1 : Int32)
def fX4_zeros_L21  (r4 : Mem → Int32 → Int32 → Int32 → Option (Int32 × Mem))  (σ : Mem) (l1 l2 l3 : Int32) : Option (Int32 × Mem) :=
    r4 σ l1 l2 (l3 + (1 : Int32))
def fX4_zeros_B4   (r4 : Mem → Int32 → Int32 → Int32 → Option (Int32 × Mem)) (σ : Mem) (l1 l2 l3 : Int32) : Option (Int32 × Mem) :=
    if l1 ≤ l3 then (some (l2, σ))
    else (ck l3 10 (if (σ 8 l3.toNatClampNeg) = 0 then (fX4_zeros_L21 r4 σ l1 (l2 + (1 : Int32)) l3)
    else (fX4_zeros_L21 r4 σ l1 l2 l3)))
def fX4_zeros_L4   (n : Nat) : Mem → Int32 → Int32 → Int32 → Option (Int32 × Mem) := fx (fX4_zeros_B4 ) (fun _ _ _ _ => none) n
def fX4_zeros  (σ : Mem) (a1 : Int32) : Option (Int32 × Mem) :=
    fX4_zeros_L4  FU σ a1 (0 : Int32) (0 : Int32)
def fX4_violationIn (q2 : Nat) (σ : Mem) (a1 : Int32) : Option (Int32 × Mem) :=
    bd (fX4_gather q2 σ a1) fun v8 σ8 =>
    ck a1 20 (ck a1 20 (if (σ8 4 a1.toNatClampNeg) = (0 : Int32) then (bd (fX4_closePairs σ8 v8 (1 : Int32)) fun v9 σ9 =>
    some (v9, σ9))
    else (if (σ8 4 a1.toNatClampNeg) = (1 : Int32) then (bd (fX4_sum σ8 v8) fun v10 σ10 =>
    some ((if (0 : Int32) < (v10 - (σ8 6 a1.toNatClampNeg)) then (v10 - (σ8 6 a1.toNatClampNeg)) else (0 : Int32)), σ10))
    else (if (σ8 4 a1.toNatClampNeg) = (2 : Int32) then (bd (fX4_sum σ8 v8) fun v11 σ11 =>
    some ((if 0 ≤ (v11 - (σ8 6 a1.toNatClampNeg)) then (v11 - (σ8 6 a1.toNatClampNeg)) else 0 - (v11 - (σ8 6 a1.toNatClampNeg))), σ11))
    else (if (σ8 4 a1.toNatClampNeg) = (3 : Int32) then (bd (fX4_descents σ8 v8 (σ8 6 a1.toNatClampNeg)) fun v12 σ12 =>
    some (v12, σ12))
    else (if (σ8 4 a1.toNatClampNeg) = (4 : Int32) then (bd (fX4_zeros σ8 v8) fun v13 σ13 =>
    some ((if 0 ≤ (v13 - (σ8 6 a1.toNatClampNeg)) then (v13 - (σ8 6 a1.toNatClampNeg)) else 0 - (v13 - (σ8 6 a1.toNatClampNeg))), σ13))
    else (if (σ8 4 a1.toNatClampNeg) = (5 : Int32) then (bd (fX4_closePairs σ8 v8 (σ8 6 a1.toNatClampNeg)) fun v14 σ14 =>
    some (v14, σ14))
    else (some ((0 : Int32), σ8)))))))))
def fX4_costIn_B4 (q1 : Nat)  (r4 : Mem → Int32 → Int32 → Option (Int32 × Mem)) (σ : Mem) (l2 l3 : Int32) : Option (Int32 × Mem) :=
    if (σ 1 8) ≤ l3 then (some (l2, σ))
    else (ck l3 20 (bd (fX4_violationIn q1 σ l3) fun v3 σ3 =>
    li (l2 + ((σ 7 l3.toNatClampNeg) * v3)) fun x4 =>
    r4 σ3 x4 (l3 + (1 : Int32))))
def fX4_costIn_L4 (q1 : Nat)  (n : Nat) : Mem → Int32 → Int32 → Option (Int32 × Mem) := fx (fX4_costIn_B4 q1) (fun _ _ _ => none) n
def fX4_costIn (q1 : Nat) (σ : Mem) : Option (Int32 × Mem) :=
    fX4_costIn_L4 q1 FU σ (0 : Int32) (0 : Int32)
def fX4_presentCost  (σ : Mem) : Option (Int32 × Mem) :=
    bd (fX4_costIn 3 σ) fun v2 σ2 =>
    some (v2, σ2)
def fX8_keepBest  (σ : Mem) (a2 : Int32) : Option (Mem) :=
    ckc (0 : Int32) (0 : Int32) (10 : Int32) 10 10 (lt (mcp σ 3 (0 : Int32) 85 (0 : Int32) (10 : Int32)) fun σ4 =>
    lt (mst σ4 84 5 a2) fun σ5 =>
    lt (mst σ5 84 6 (σ5 84 7)) fun σ6 =>
    some σ6)
def fX8_begin  (σ : Mem) : Option (Mem) :=
    lt (mst σ 84 7 (0 : Int32)) fun σ8 =>
    lt (mst σ8 84 8 (0 : Int32)) fun σ9 =>
    lt (mst σ9 84 9 (0 : Int32)) fun σ10 =>
    bv (fX6_forget σ10) fun σ11 =>
    bv (fX8_freeAll σ11) fun σ12 =>
    bd (fX4_presentCost σ12) fun v13 σ13 =>
    bv (fX8_keepBest σ13 v13) fun σ14 =>
    some σ14
def fX9_beginSearch  (σ : Mem) : Option (Mem) :=
    bv (fX8_begin σ) fun σ3 =>
    lt (mst σ3 113 2 (0 : Int32)) fun σ4 =>
    some σ4
def fX9_clear  (σ : Mem) : Option (Int32 × Mem) :=
    bv (fX4_removeAll σ) fun σ5 =>
    bv (fX1_forget σ5) fun σ6 =>
    bv (fX5_reset σ6) fun σ7 =>
    bv (fX9_beginSearch σ7) fun σ8 =>
    some (σ 1 7, σ8)
def fX9_checkRange_L10    (σ : Mem) : Option ((Unit ⊕ String) × Mem) :=
    some (.inr "java/lang/IllegalArgumentException", σ)
def fX9_checkRange  (σ : Mem) (a0 a1 a2 : Int32) : Option ((Unit ⊕ String) × Mem) :=
    if a0 < a1 then (fX9_checkRange_L10  σ)
    else (if a0 ≤ a2 then (some (.inl (), σ))
    else (fX9_checkRange_L10  σ))
def fX9_checkSize  (σ : Mem) (a0 : Int32) : Option ((Unit ⊕ String) × Mem) :=
    bx (fX9_checkRange σ a0 (2 : Int32) (8 : Int32)) (fun _ σ2 =>
    some (.inl (), σ2)) (fun e9 σ2 => some (.inr e9, σ2))
def fX4_copyFrom (b : Nat) (o1 : Nat) (σ : Mem) : Option (Mem) :=
    lt (mst σ b 7 (σ o1 7)) fun σ9 =>
    lt (mst σ9 b 8 (σ9 o1 8)) fun σ10 =>
    ckc (0 : Int32) (0 : Int32) (10 : Int32) 10 10 (lt (mcp σ10 (o1 + 1) (0 : Int32) (b + 1) (0 : Int32) (10 : Int32)) fun σ11 =>
    ckc (0 : Int32) (0 : Int32) (10 : Int32) 10 10 (lt (mcp σ11 (o1 + 2) (0 : Int32) (b + 2) (0 : Int32) (10 : Int32)) fun σ12 =>
    ckc (0 : Int32) (0 : Int32) (20 : Int32) 20 20 (lt (mcp σ12 (o1 + 3) (0 : Int32) (b + 3) (0 : Int32) (20 : Int32)) fun σ13 =>
    ckc (0 : Int32) (0 : Int32) (20 : Int32) 20 20 (lt (mcp σ13 (o1 + 4) (0 : Int32) (b + 4) (0 : Int32) (20 : Int32)) fun σ14 =>
    ckc (0 : Int32) (0 : Int32) (20 : Int32) 20 20 (lt (mcp σ14 (o1 + 5) (0 : Int32) (b + 5) (0 : Int32) (20 : Int32)) fun σ15 =>
    ckc (0 : Int32) (0 : Int32) (20 : Int32) 20 20 (lt (mcp σ15 (o1 + 6) (0 : Int32) (b + 6) (0 : Int32) (20 : Int32)) fun σ16 =>
    some σ16))))))
def fX1_remember  (σ : Mem) : Option (Mem) :=
    ck (((σ 81 1) + (σ 81 2)) - ((σ 81 1) + (σ 81 2)) / (8 : Int32) * (8 : Int32)) 8 (bv (fX4_copyFrom (17 + 8 * (((σ 81 1) + (σ 81 2)) - ((σ 81 1) + (σ 81 2)) / (8 : Int32) * (8 : Int32)).toNatClampNeg) 1 σ) fun σ6 =>
    if (8 : Int32) ≤ (σ6 81 2) then (lt (mst σ6 81 1 (((σ6 81 1) + (1 : Int32)) - ((σ6 81 1) + (1 : Int32)) / (8 : Int32) * (8 : Int32))) fun σ7 =>
    some σ7)
    else (lt (mst σ6 81 2 ((σ6 81 2) + (1 : Int32))) fun σ8 =>
    some σ8))
def fX4_putVariable  (σ : Mem) (a1 : Int32) : Option (Mem) :=
    ck (σ 1 7) 10 (lt (mst σ 2 (σ 1 7).toNatClampNeg a1) fun σ4 =>
    ck (σ4 1 7) 10 (lt (mst σ4 3 (σ4 1 7).toNatClampNeg (0 : Int32)) fun σ5 =>
    lt (mst σ5 1 7 ((σ5 1 7) + (1 : Int32))) fun σ6 =>
    some σ6))
def fX9_addVariable  (σ : Mem) (a1 : Int32) : Option ((Int32 ⊕ String) × Mem) :=
    bx (fX9_checkSize σ a1) (fun _ σ5 =>
    if (σ5 1 7) < (10 : Int32) then (bv (fX1_remember σ5) fun σ6 =>
    bv (fX4_putVariable σ6 a1) fun σ7 =>
    bv (fX9_beginSearch σ7) fun σ8 =>
    some (.inl ((σ8 1 7) - (1 : Int32)), σ8))
    else (some (.inr "java/lang/IllegalStateException", σ5))) (fun e9 σ5 => some (.inr e9, σ5))
def fX9_checkVariable_L15    (σ : Mem) : Option ((Unit ⊕ String) × Mem) :=
    some (.inr "java/lang/IndexOutOfBoundsException", σ)
def fX9_checkVariable  (σ : Mem) (a1 : Int32) : Option ((Unit ⊕ String) × Mem) :=
    if a1 < 0 then (fX9_checkVariable_L15  σ)
    else (if a1 < (σ 1 7) then (some (.inl (), σ))
    else (fX9_checkVariable_L15  σ))
def fX9_setDomain  (σ : Mem) (a1 a2 : Int32) : Option ((Int32 ⊕ String) × Mem) :=
    bx (fX9_checkVariable σ a1) (fun _ σ7 =>
    bx (fX9_checkSize σ7 a2) (fun _ σ8 =>
    bv (fX1_remember σ8) fun σ9 =>
    ck a1 10 (ck a1 10 (lt (mst σ9 2 a1.toNatClampNeg a2) fun σ10 =>
    ck a1 10 (ck a1 10 (lt (mst σ10 3 a1.toNatClampNeg (if (a2 - (1 : Int32)) < (σ10 3 a1.toNatClampNeg) then (a2 - (1 : Int32)) else (σ10 3 a1.toNatClampNeg))) fun σ11 =>
    bv (fX9_beginSearch σ11) fun σ12 =>
    some (.inl (σ9 2 a1.toNatClampNeg), σ12)))))) (fun e9 σ8 => some (.inr e9, σ8))) (fun e9 σ7 => some (.inr e9, σ7))
def fJ6_bitCount_0f7a4  (σ : Mem) (a0 : Int32) : Option (Int32 × Mem) :=
    li (a0 - (((a0.toUInt32 >>> ((1 : Int32).toUInt32 &&& Int32.toUInt32 31)).toInt32) &&& (1431655765 : Int32))) fun x6 =>
    li ((x6 &&& (858993459 : Int32)) + (((x6.toUInt32 >>> ((2 : Int32).toUInt32 &&& Int32.toUInt32 31)).toInt32) &&& (858993459 : Int32))) fun x7 =>
    li ((x7 + ((x7.toUInt32 >>> ((4 : Int32).toUInt32 &&& Int32.toUInt32 31)).toInt32)) &&& (252645135 : Int32)) fun x8 =>
    li (x8 + ((x8.toUInt32 >>> ((8 : Int32).toUInt32 &&& Int32.toUInt32 31)).toInt32)) fun x9 =>
    li (x9 + ((x9.toUInt32 >>> ((16 : Int32).toUInt32 &&& Int32.toUInt32 31)).toInt32)) fun x10 =>
    some (x10 &&& (63 : Int32), σ)
def fX9_areMembers  (σ : Mem) (a0 a1 : Int32) : Option (Int32 × Mem) :=
    if ((a0.toUInt32 >>> (a1.toUInt32 &&& Int32.toUInt32 31)).toInt32) = 0 then (some ((1 : Int32), σ))
    else (some ((0 : Int32), σ))
def fX4_putConstraint  (σ : Mem) (a1 a2 a3 a4 : Int32) : Option (Mem) :=
    ck (σ 1 8) 20 (lt (mst σ 4 (σ 1 8).toNatClampNeg a1) fun σ6 =>
    ck (σ6 1 8) 20 (lt (mst σ6 5 (σ6 1 8).toNatClampNeg a2) fun σ7 =>
    ck (σ7 1 8) 20 (lt (mst σ7 6 (σ7 1 8).toNatClampNeg a3) fun σ8 =>
    ck (σ8 1 8) 20 (lt (mst σ8 7 (σ8 1 8).toNatClampNeg a4) fun σ9 =>
    lt (mst σ9 1 8 ((σ9 1 8) + (1 : Int32))) fun σ10 =>
    some σ10))))
def fX9_addConstraint_L44    (σ : Mem) : Option ((Int32 ⊕ String) × Mem) :=
    some (.inr "java/lang/IllegalArgumentException", σ)
def fX9_addConstraint  (σ : Mem) (a1 a2 a3 a4 : Int32) : Option ((Int32 ⊕ String) × Mem) :=
    bx (fX9_checkRange σ a1 (0 : Int32) (5 : Int32)) (fun _ σ9 =>
    bx (fX9_checkRange σ9 a3 (-50 : Int32) (50 : Int32)) (fun _ σ10 =>
    bx (fX9_checkRange σ10 a4 (1 : Int32) (9 : Int32)) (fun _ σ11 =>
    bd (fJ6_bitCount_0f7a4 σ11 a2) fun v12 σ12 =>
    if v12 < (2 : Int32) then (fX9_addConstraint_L44  σ12)
    else (bd (fX9_areMembers σ12 a2 (σ12 1 7)) fun v13 σ13 =>
    if v13 = 0 then (fX9_addConstraint_L44  σ13)
    else (if (σ13 1 8) < (20 : Int32) then (bv (fX1_remember σ13) fun σ14 =>
    bv (fX4_putConstraint σ14 a1 a2 a3 a4) fun σ15 =>
    bv (fX9_beginSearch σ15) fun σ16 =>
    some (.inl ((σ16 1 8) - (1 : Int32)), σ16))
    else (some (.inr "java/lang/IllegalStateException", σ13))))) (fun e9 σ11 => some (.inr e9, σ11))) (fun e9 σ10 => some (.inr e9, σ10))) (fun e9 σ9 => some (.inr e9, σ9))
def fX9_checkConstraint_L15    (σ : Mem) : Option ((Unit ⊕ String) × Mem) :=
    some (.inr "java/lang/IndexOutOfBoundsException", σ)
def fX9_checkConstraint  (σ : Mem) (a1 : Int32) : Option ((Unit ⊕ String) × Mem) :=
    if a1 < 0 then (fX9_checkConstraint_L15  σ)
    else (if a1 < (σ 1 8) then (some (.inl (), σ))
    else (fX9_checkConstraint_L15  σ))
def fX4_dropConstraint  (σ : Mem) (a1 : Int32) : Option (Mem) :=
    li (((σ 1 8) - a1) - (1 : Int32)) fun x7 =>
    ckc (a1 + (1 : Int32)) a1 x7 20 20 (lt (mcp σ 4 (a1 + (1 : Int32)) 4 a1 x7) fun σ8 =>
    ckc (a1 + (1 : Int32)) a1 x7 20 20 (lt (mcp σ8 5 (a1 + (1 : Int32)) 5 a1 x7) fun σ9 =>
    ckc (a1 + (1 : Int32)) a1 x7 20 20 (lt (mcp σ9 6 (a1 + (1 : Int32)) 6 a1 x7) fun σ10 =>
    ckc (a1 + (1 : Int32)) a1 x7 20 20 (lt (mcp σ10 7 (a1 + (1 : Int32)) 7 a1 x7) fun σ11 =>
    lt (mst σ11 1 8 ((σ11 1 8) - (1 : Int32))) fun σ12 =>
    some σ12))))
def fX9_removeConstraint  (σ : Mem) (a1 : Int32) : Option ((Int32 ⊕ String) × Mem) :=
    bx (fX9_checkConstraint σ a1) (fun _ σ5 =>
    bv (fX1_remember σ5) fun σ6 =>
    bv (fX4_dropConstraint σ6 a1) fun σ7 =>
    bv (fX9_beginSearch σ7) fun σ8 =>
    some (.inl (σ8 1 8), σ8)) (fun e9 σ5 => some (.inr e9, σ5))
def fX9_setWeight  (σ : Mem) (a1 a2 : Int32) : Option ((Int32 ⊕ String) × Mem) :=
    bx (fX9_checkConstraint σ a1) (fun _ σ6 =>
    bx (fX9_checkRange σ6 a2 (1 : Int32) (9 : Int32)) (fun _ σ7 =>
    bv (fX1_remember σ7) fun σ8 =>
    ck a1 20 (ck a1 20 (lt (mst σ8 7 a1.toNatClampNeg a2) fun σ9 =>
    bv (fX9_beginSearch σ9) fun σ10 =>
    some (.inl (σ8 7 a1.toNatClampNeg), σ10)))) (fun e9 σ7 => some (.inr e9, σ7))) (fun e9 σ6 => some (.inr e9, σ6))
def fX9_setValue  (σ : Mem) (a1 a2 : Int32) : Option ((Int32 ⊕ String) × Mem) :=
    bx (fX9_checkVariable σ a1) (fun _ σ5 =>
    ck a1 10 (bx (fX9_checkRange σ5 a2 (0 : Int32) ((σ5 2 a1.toNatClampNeg) - (1 : Int32))) (fun _ σ6 =>
    ck a1 10 (ck a1 10 (lt (mst σ6 3 a1.toNatClampNeg a2) fun σ7 =>
    bv (fX9_beginSearch σ7) fun σ8 =>
    some (.inl (σ6 3 a1.toNatClampNeg), σ8)))) (fun e9 σ6 => some (.inr e9, σ6)))) (fun e9 σ5 => some (.inr e9, σ5))
def fX4_violatedConstraints_L27  (r4 : Mem → Int32 → Int32 → Option (Int32 × Mem))  (σ : Mem) (l1 l2 : Int32) : Option (Int32 × Mem) :=
    r4 σ l1 (l2 + (1 : Int32))
def fX4_violatedConstraints_B4   (r4 : Mem → Int32 → Int32 → Option (Int32 × Mem)) (σ : Mem) (l1 l2 : Int32) : Option (Int32 × Mem) :=
    if (σ 1 8) ≤ l2 then (some (l1, σ))
    else (bd (fX4_violationIn 3 σ l2) fun v2 σ2 =>
    if v2 ≤ 0 then (fX4_violatedConstraints_L27 r4 σ2 l1 l2)
    else (fX4_violatedConstraints_L27 r4 σ2 (l1 + (1 : Int32)) l2))
def fX4_violatedConstraints_L4   (n : Nat) : Mem → Int32 → Int32 → Option (Int32 × Mem) := fx (fX4_violatedConstraints_B4 ) (fun _ _ _ => none) n
def fX4_violatedConstraints  (σ : Mem) : Option (Int32 × Mem) :=
    fX4_violatedConstraints_L4  FU σ (0 : Int32) (0 : Int32)
def fX4_combinations_B4   (r4 : Mem → Int32 → Int32 → Option (Int32 × Mem)) (σ : Mem) (l1 l2 : Int32) : Option (Int32 × Mem) :=
    if (σ 1 7) ≤ l2 then (some (l1, σ))
    else (ck l2 10 (li (l1 * (σ 2 l2.toNatClampNeg)) fun x2 =>
    r4 σ x2 (l2 + (1 : Int32))))
def fX4_combinations_L4   (n : Nat) : Mem → Int32 → Int32 → Option (Int32 × Mem) := fx (fX4_combinations_B4 ) (fun _ _ _ => none) n
def fX4_combinations  (σ : Mem) : Option (Int32 × Mem) :=
    fX4_combinations_L4  FU σ (1 : Int32) (0 : Int32)
def fX9_count  (σ : Mem) (a1 : Int32) : Option ((Int32 ⊕ String) × Mem) :=
    if a1 = (0 : Int32) then (some (.inl (σ 1 7), σ))
    else (if a1 = (1 : Int32) then (some (.inl (σ 1 8), σ))
    else (if a1 = (2 : Int32) then (bd (fX4_violatedConstraints σ) fun v3 σ3 =>
    some (.inl v3, σ3))
    else (if a1 = (3 : Int32) then (bd (fX4_combinations σ) fun v4 σ4 =>
    some (.inl v4, σ4))
    else (some (.inr "java/lang/IllegalArgumentException", σ)))))
def fX9_constraint  (σ : Mem) (a1 a2 : Int32) : Option ((Int32 ⊕ String) × Mem) :=
    bx (fX9_checkConstraint σ a1) (fun _ σ2 =>
    if a2 = (0 : Int32) then (ck a1 20 (some (.inl (σ2 4 a1.toNatClampNeg), σ2)))
    else (if a2 = (1 : Int32) then (ck a1 20 (some (.inl (σ2 5 a1.toNatClampNeg), σ2)))
    else (if a2 = (2 : Int32) then (ck a1 20 (some (.inl (σ2 6 a1.toNatClampNeg), σ2)))
    else (if a2 = (3 : Int32) then (ck a1 20 (some (.inl (σ2 7 a1.toNatClampNeg), σ2)))
    else (some (.inr "java/lang/IllegalArgumentException", σ2)))))) (fun e9 σ2 => some (.inr e9, σ2))
def fX4_isMember  (σ : Mem) (a1 a2 : Int32) : Option (Int32 × Mem) :=
    ck a2 20 (if (((σ 5 a2.toNatClampNeg) >>> (a1 &&& 31)) &&& (1 : Int32)) = 0 then (some ((0 : Int32), σ))
    else (some ((1 : Int32), σ)))
def fX4_conflictOf_L40  (r4 : Mem → Int32 → Int32 → Int32 → Option (Int32 × Mem))  (σ : Mem) (l1 l2 l3 : Int32) : Option (Int32 × Mem) :=
    r4 σ l1 l2 (l3 + (1 : Int32))
def fX4_conflictOf_B4   (r4 : Mem → Int32 → Int32 → Int32 → Option (Int32 × Mem)) (σ : Mem) (l1 l2 l3 : Int32) : Option (Int32 × Mem) :=
    if (σ 1 8) ≤ l3 then (some (l2, σ))
    else (bd (fX4_isMember σ l1 l3) fun v4 σ4 =>
    if v4 = 0 then (fX4_conflictOf_L40 r4 σ4 l1 l2 l3)
    else (ck l3 20 (bd (fX4_violationIn 3 σ4 l3) fun v5 σ5 =>
    li (l2 + ((σ4 7 l3.toNatClampNeg) * v5)) fun x6 =>
    fX4_conflictOf_L40 r4 σ5 l1 x6 l3)))
def fX4_conflictOf_L4   (n : Nat) : Mem → Int32 → Int32 → Int32 → Option (Int32 × Mem) := fx (fX4_conflictOf_B4 ) (fun _ _ _ _ => none) n
def fX4_conflictOf  (σ : Mem) (a1 : Int32) : Option (Int32 × Mem) :=
    fX4_conflictOf_L4  FU σ a1 (0 : Int32) (0 : Int32)
def fX4_membershipsOf_L24  (r4 : Mem → Int32 → Int32 → Int32 → Option (Int32 × Mem))  (σ : Mem) (l1 l2 l3 : Int32) : Option (Int32 × Mem) :=
    r4 σ l1 l2 (l3 + (1 : Int32))
def fX4_membershipsOf_B4   (r4 : Mem → Int32 → Int32 → Int32 → Option (Int32 × Mem)) (σ : Mem) (l1 l2 l3 : Int32) : Option (Int32 × Mem) :=
    if (σ 1 8) ≤ l3 then (some (l2, σ))
    else (bd (fX4_isMember σ l1 l3) fun v2 σ2 =>
    if v2 = 0 then (fX4_membershipsOf_L24 r4 σ2 l1 l2 l3)
    else (fX4_membershipsOf_L24 r4 σ2 l1 (l2 + (1 : Int32)) l3))
def fX4_membershipsOf_L4   (n : Nat) : Mem → Int32 → Int32 → Int32 → Option (Int32 × Mem) := fx (fX4_membershipsOf_B4 ) (fun _ _ _ _ => none) n
def fX4_membershipsOf  (σ : Mem) (a1 : Int32) : Option (Int32 × Mem) :=
    fX4_membershipsOf_L4  FU σ a1 (0 : Int32) (0 : Int32)
def fX9_variable  (σ : Mem) (a1 a2 : Int32) : Option ((Int32 ⊕ String) × Mem) :=
    bx (fX9_checkVariable σ a1) (fun _ σ4 =>
    if a2 = (0 : Int32) then (ck a1 10 (some (.inl (σ4 2 a1.toNatClampNeg), σ4)))
    else (if a2 = (1 : Int32) then (ck a1 10 (some (.inl (σ4 3 a1.toNatClampNeg), σ4)))
    else (if a2 = (2 : Int32) then (ck a1 10 (some (.inl (σ4 85 a1.toNatClampNeg), σ4)))
    else (if a2 = (3 : Int32) then (bd (fX4_conflictOf σ4 a1) fun v5 σ5 =>
    some (.inl v5, σ5))
    else (if a2 = (4 : Int32) then (bd (fX4_membershipsOf σ4 a1) fun v6 σ6 =>
    some (.inl v6, σ6))
    else (some (.inr "java/lang/IllegalArgumentException", σ4))))))) (fun e9 σ4 => some (.inr e9, σ4))
def fX9_cost  (σ : Mem) : Option (Int32 × Mem) :=
    bd (fX4_presentCost σ) fun v2 σ2 =>
    some (v2, σ2)
def fX9_bestCost  (σ : Mem) : Option (Int32 × Mem) :=
    some (σ 84 5, σ)
def fX9_violation_L31   (p2 : Nat) (σ : Mem) (s1 : Int32) : Option ((Int32 ⊕ String) × Mem) :=
    bd (fX4_violationIn p2 σ s1) fun v4 σ4 =>
    some (.inl v4, σ4)
def fX9_violation  (σ : Mem) (a1 a2 : Int32) : Option ((Int32 ⊕ String) × Mem) :=
    bx (fX9_checkConstraint σ a1) (fun _ σ5 =>
    if a2 = 0 then (fX9_violation_L31  3 σ5 a1)
    else (fX9_violation_L31  85 σ5 a1)) (fun e9 σ5 => some (.inr e9, σ5))
def fX9_mostBlamed_L38  (r6 : Mem → Int32 → Int32 → Int32 → Option ((Int32 ⊕ String) × Mem))  (σ : Mem) (l1 l2 l3 : Int32) : Option ((Int32 ⊕ String) × Mem) :=
    r6 σ l1 l2 (l3 + (1 : Int32))
def fX9_mostBlamed_B6   (r6 : Mem → Int32 → Int32 → Int32 → Option ((Int32 ⊕ String) × Mem)) (σ : Mem) (l1 l2 l3 : Int32) : Option ((Int32 ⊕ String) × Mem) :=
    if (σ 1 7) ≤ l3 then (if l1 = (-1 : Int32) then (some (.inr "java/util/NoSuchElementException", σ))
    else (some (.inl l1, σ)))
    else (bd (fX4_conflictOf σ l3) fun v2 σ2 =>
    if v2 ≤ l2 then (fX9_mostBlamed_L38 r6 σ2 l1 l2 l3)
    else (fX9_mostBlamed_L38 r6 σ2 l3 v2 l3))
def fX9_mostBlamed_L6   (n : Nat) : Mem → Int32 → Int32 → Int32 → Option ((Int32 ⊕ String) × Mem) := fx (fX9_mostBlamed_B6 ) (fun _ _ _ _ => none) n
def fX9_mostBlamed  (σ : Mem) : Option ((Int32 ⊕ String) × Mem) :=
    fX9_mostBlamed_L6  FU σ (-1 : Int32) (0 : Int32) (0 : Int32)
def fX8_reliefOf_L64  (r21 : Mem → Int32 → Int32 → Int32 → Option (Int32 × Mem))  (σ : Mem) (l2 l3 l4 : Int32) : Option (Int32 × Mem) :=
    r21 σ l2 l3 (l4 + (1 : Int32))
def fX8_reliefOf_B21   (r21 : Mem → Int32 → Int32 → Int32 → Option (Int32 × Mem)) (σ : Mem) (l2 l3 l4 : Int32) : Option (Int32 × Mem) :=
    ck l2 10 (if (σ 2 l2.toNatClampNeg) ≤ l4 then (bd (fX4_presentCost σ) fun v6 σ6 =>
    some (v6 - l3, σ6))
    else (ck l2 10 (if l4 = (σ 3 l2.toNatClampNeg) then (fX8_reliefOf_L64 r21 σ l2 l3 l4)
    else (ck l2 10 (lt (mst σ 86 l2.toNatClampNeg l4) fun σ7 =>
    bd (fX4_costIn 86 σ7) fun v8 σ8 =>
    li (if v8 < l3 then v8 else l3) fun x9 =>
    fX8_reliefOf_L64 r21 σ8 l2 x9 l4)))))
def fX8_reliefOf_L21   (n : Nat) : Mem → Int32 → Int32 → Int32 → Option (Int32 × Mem) := fx (fX8_reliefOf_B21 ) (fun _ _ _ _ => none) n
def fX8_reliefOf  (σ : Mem) (a2 : Int32) : Option (Int32 × Mem) :=
    ckc (0 : Int32) (0 : Int32) (10 : Int32) 10 10 (lt (mcp σ 3 (0 : Int32) 86 (0 : Int32) (10 : Int32)) fun σ10 =>
    fX8_reliefOf_L21  FU σ10 a2 (1000000 : Int32) (0 : Int32))
def fX9_relief  (σ : Mem) (a1 : Int32) : Option ((Int32 ⊕ String) × Mem) :=
    bx (fX9_checkVariable σ a1) (fun _ σ3 =>
    bd (fX8_reliefOf σ3 a1) fun v4 σ4 =>
    some (.inl v4, σ4)) (fun e9 σ3 => some (.inr e9, σ3))
def fX4_takeValues (q1 : Nat) (σ : Mem) : Option (Mem) :=
    ckc (0 : Int32) (0 : Int32) (10 : Int32) 10 10 (lt (mcp σ q1 (0 : Int32) 3 (0 : Int32) (10 : Int32)) fun σ2 =>
    some σ2)
def fX9_takeBest  (σ : Mem) : Option (Int32 × Mem) :=
    bd (fX4_presentCost σ) fun v4 σ4 =>
    bv (fX4_takeValues 85 σ4) fun σ5 =>
    bd (fX4_presentCost σ5) fun v6 σ6 =>
    some (v4 - v6, σ6)
def fX9_setNeighborhood  (σ : Mem) (a1 : Int32) : Option ((Int32 ⊕ String) × Mem) :=
    bx (fX9_checkRange σ a1 (0 : Int32) (15 : Int32)) (fun _ σ3 =>
    lt (mst σ3 83 0 a1) fun σ4 =>
    some (.inl (σ3 83 0), σ4)) (fun e9 σ3 => some (.inr e9, σ3))
def fX9_setTenure  (σ : Mem) (a1 : Int32) : Option ((Int32 ⊕ String) × Mem) :=
    bx (fX9_checkRange σ a1 (0 : Int32) (20 : Int32)) (fun _ σ3 =>
    lt (mst σ3 83 1 a1) fun σ4 =>
    some (.inl (σ3 83 1), σ4)) (fun e9 σ3 => some (.inr e9, σ3))
def fX9_setPatience  (σ : Mem) (a1 : Int32) : Option ((Int32 ⊕ String) × Mem) :=
    bx (fX9_checkRange σ a1 (1 : Int32) (100 : Int32)) (fun _ σ3 =>
    lt (mst σ3 83 2 a1) fun σ4 =>
    some (.inl (σ3 83 2), σ4)) (fun e9 σ3 => some (.inr e9, σ3))
def fX9_setSeed  (σ : Mem) (a1 : Int32) : Option ((Int32 ⊕ String) × Mem) :=
    bx (fX9_checkRange σ a1 (0 : Int32) (2147483647 : Int32)) (fun _ σ3 =>
    lt (mst σ3 83 3 a1) fun σ4 =>
    some (.inl (σ3 83 3), σ4)) (fun e9 σ3 => some (.inr e9, σ3))
def fX3_put  (σ : Mem) (a1 a2 a3 a4 : Int32) : Option (Mem) :=
    if (375 : Int32) ≤ (σ 98 1) then (some σ)
    else (ck (σ 98 1) 375 (lt (mst σ 100 (σ 98 1).toNatClampNeg a1) fun σ6 =>
    ck (σ6 98 1) 375 (lt (mst σ6 101 (σ6 98 1).toNatClampNeg a2) fun σ7 =>
    ck (σ7 98 1) 375 (lt (mst σ7 102 (σ7 98 1).toNatClampNeg a3) fun σ8 =>
    ck (σ8 98 1) 375 (lt (mst σ8 103 (σ8 98 1).toNatClampNeg a4) fun σ9 =>
    lt (mst σ9 98 1 ((σ9 98 1) + (1 : Int32))) fun σ10 =>
    some σ10)))))
def fX3_putSets_L40  (r2 : Mem → Int32 → Option (Mem)) (r12 : Mem → Int32 → Int32 → Option (Mem))  (σ : Mem) (l2 l3 : Int32) : Option (Mem) :=
    r12 σ l2 (l3 + (1 : Int32))
def fX3_putSets_B12  (r2 : Mem → Int32 → Option (Mem)) (r12 : Mem → Int32 → Int32 → Option (Mem)) (σ : Mem) (l2 l3 : Int32) : Option (Mem) :=
    ck l2 10 (if (σ 2 l2.toNatClampNeg) ≤ l3 then (r2 σ (l2 + (1 : Int32)))
    else (ck l2 10 (if l3 = (σ 3 l2.toNatClampNeg) then (fX3_putSets_L40 r2 r12 σ l2 l3)
    else (bv (fX3_put σ (0 : Int32) l2 l3 (-1 : Int32)) fun σ2 =>
    fX3_putSets_L40 r2 r12 σ2 l2 l3))))
def fX3_putSets_L12  (r2 : Mem → Int32 → Option (Mem)) (n : Nat) : Mem → Int32 → Int32 → Option (Mem) := fx (fX3_putSets_B12 r2) (fun _ _ _ => none) n
def fX3_putSets_B2   (r2 : Mem → Int32 → Option (Mem)) (σ : Mem) (l2 : Int32) : Option (Mem) :=
    if (σ 1 7) ≤ l2 then (some σ)
    else (fX3_putSets_L12 r2 FU σ l2 (0 : Int32))
def fX3_putSets_L2   (n : Nat) : Mem → Int32 → Option (Mem) := fx (fX3_putSets_B2 ) (fun _ _ => none) n
def fX3_putSets  (σ : Mem) : Option (Mem) :=
    fX3_putSets_L2  FU σ (0 : Int32)
def fX3_fits  (σ : Mem) (a1 a2 : Int32) : Option (Int32 × Mem) :=
    ck a1 10 (ck a2 10 (if (σ 2 a2.toNatClampNeg) ≤ (σ 3 a1.toNatClampNeg) then (some ((0 : Int32), σ))
    else (some ((1 : Int32), σ))))
def fX3_putSwaps_L63  (r2 : Mem → Int32 → Option (Mem)) (r14 : Mem → Int32 → Int32 → Option (Mem))  (σ : Mem) (l2 l3 : Int32) : Option (Mem) :=
    r14 σ l2 (l3 + (1 : Int32))
def fX3_putSwaps_B14  (r2 : Mem → Int32 → Option (Mem)) (r14 : Mem → Int32 → Int32 → Option (Mem)) (σ : Mem) (l2 l3 : Int32) : Option (Mem) :=
    if (σ 1 7) ≤ l3 then (r2 σ (l2 + (1 : Int32)))
    else (ck l2 10 (ck l3 10 (if (σ 3 l2.toNatClampNeg) = (σ 3 l3.toNatClampNeg) then (fX3_putSwaps_L63 r2 r14 σ l2 l3)
    else (bd (fX3_fits σ l2 l3) fun v4 σ4 =>
    if v4 = 0 then (fX3_putSwaps_L63 r2 r14 σ4 l2 l3)
    else (bd (fX3_fits σ4 l3 l2) fun v5 σ5 =>
    if v5 = 0 then (fX3_putSwaps_L63 r2 r14 σ5 l2 l3)
    else (bv (fX3_put σ5 (1 : Int32) l2 l3 (-1 : Int32)) fun σ6 =>
    fX3_putSwaps_L63 r2 r14 σ6 l2 l3))))))
def fX3_putSwaps_L14  (r2 : Mem → Int32 → Option (Mem)) (n : Nat) : Mem → Int32 → Int32 → Option (Mem) := fx (fX3_putSwaps_B14 r2) (fun _ _ _ => none) n
def fX3_putSwaps_B2   (r2 : Mem → Int32 → Option (Mem)) (σ : Mem) (l2 : Int32) : Option (Mem) :=
    if (σ 1 7) ≤ l2 then (some σ)
    else (fX3_putSwaps_L14 r2 FU σ l2 (l2 + (1 : Int32)))
def fX3_putSwaps_L2   (n : Nat) : Mem → Int32 → Option (Mem) := fx (fX3_putSwaps_B2 ) (fun _ _ => none) n
def fX3_putSwaps  (σ : Mem) : Option (Mem) :=
    fX3_putSwaps_L2  FU σ (0 : Int32)
def fX3_putShifts_B2   (r2 : Mem → Int32 → Option (Mem)) (σ : Mem) (l2 : Int32) : Option (Mem) :=
    if (σ 1 7) ≤ l2 then (some σ)
    else (bv (fX3_put σ (2 : Int32) l2 (0 : Int32) (-1 : Int32)) fun σ3 =>
    bv (fX3_put σ3 (2 : Int32) l2 (1 : Int32) (-1 : Int32)) fun σ4 =>
    r2 σ4 (l2 + (1 : Int32)))
def fX3_putShifts_L2   (n : Nat) : Mem → Int32 → Option (Mem) := fx (fX3_putShifts_B2 ) (fun _ _ => none) n
def fX3_putShifts  (σ : Mem) : Option (Mem) :=
    fX3_putShifts_L2  FU σ (0 : Int32)
def fX3_isRotation_L73    (σ : Mem) : Option (Int32 × Mem) :=
    some ((0 : Int32), σ)
def fX3_isRotation_L35    (σ : Mem) (l1 l2 l3 s0 : Int32) : Option (Int32 × Mem) :=
    if s0 = 0 then (bd (fX3_fits σ l1 l2) fun v4 σ4 =>
    if v4 = 0 then (fX3_isRotation_L73  σ4)
    else (bd (fX3_fits σ4 l2 l3) fun v5 σ5 =>
    if v5 = 0 then (fX3_isRotation_L73  σ5)
    else (bd (fX3_fits σ5 l3 l1) fun v6 σ6 =>
    if v6 = 0 then (fX3_isRotation_L73  σ6)
    else (some ((1 : Int32), σ6)))))
    else (fX3_isRotation_L73  σ)
def fX3_isRotation_L34    (σ : Mem) (l1 l2 l3 : Int32) : Option (Int32 × Mem) :=
    fX3_isRotation_L35  σ l1 l2 l3 (0 : Int32)
def fX3_isRotation  (σ : Mem) (a1 a2 a3 : Int32) : Option (Int32 × Mem) :=
    ck a1 10 (ck a2 10 (if (σ 3 a1.toNatClampNeg) = (σ 3 a2.toNatClampNeg) then (ck a2 10 (ck a3 10 (if (σ 3 a2.toNatClampNeg) = (σ 3 a3.toNatClampNeg) then (fX3_isRotation_L35  σ a1 a2 a3 (1 : Int32))
    else (fX3_isRotation_L34  σ a1 a2 a3))))
    else (fX3_isRotation_L34  σ a1 a2 a3)))
def fX3_putRotations_L62  (r2 : Mem → Int32 → Option (Mem)) (r14 : Mem → Int32 → Int32 → Option (Mem)) (r27 : Mem → Int32 → Int32 → Int32 → Option (Mem))  (σ : Mem) (l2 l3 l4 : Int32) : Option (Mem) :=
    r27 σ l2 l3 (l4 + (1 : Int32))
def fX3_putRotations_B27  (r2 : Mem → Int32 → Option (Mem)) (r14 : Mem → Int32 → Int32 → Option (Mem)) (r27 : Mem → Int32 → Int32 → Int32 → Option (Mem)) (σ : Mem) (l2 l3 l4 : Int32) : Option (Mem) :=
    if (σ 1 7) ≤ l4 then (r14 σ l2 (l3 + (1 : Int32)))
    else (if l3 = l4 then (fX3_putRotations_L62 r2 r14 r27 σ l2 l3 l4)
    else (bd (fX3_isRotation σ l2 l3 l4) fun v3 σ3 =>
    if v3 = 0 then (fX3_putRotations_L62 r2 r14 r27 σ3 l2 l3 l4)
    else (bv (fX3_put σ3 (3 : Int32) l2 l3 l4) fun σ4 =>
    fX3_putRotations_L62 r2 r14 r27 σ4 l2 l3 l4)))
def fX3_putRotations_L27  (r2 : Mem → Int32 → Option (Mem)) (r14 : Mem → Int32 → Int32 → Option (Mem)) (n : Nat) : Mem → Int32 → Int32 → Int32 → Option (Mem) := fx (fX3_putRotations_B27 r2 r14) (fun _ _ _ _ => none) n
def fX3_putRotations_B14  (r2 : Mem → Int32 → Option (Mem)) (r14 : Mem → Int32 → Int32 → Option (Mem)) (σ : Mem) (l2 l3 : Int32) : Option (Mem) :=
    if (σ 1 7) ≤ l3 then (r2 σ (l2 + (1 : Int32)))
    else (fX3_putRotations_L27 r2 r14 FU σ l2 l3 (l2 + (1 : Int32)))
def fX3_putRotations_L14  (r2 : Mem → Int32 → Option (Mem)) (n : Nat) : Mem → Int32 → Int32 → Option (Mem) := fx (fX3_putRotations_B14 r2) (fun _ _ _ => none) n
def fX3_putRotations_B2   (r2 : Mem → Int32 → Option (Mem)) (σ : Mem) (l2 : Int32) : Option (Mem) :=
    if (σ 1 7) ≤ l2 then (some σ)
    else (fX3_putRotations_L14 r2 FU σ l2 (l2 + (1 : Int32)))
def fX3_putRotations_L2   (n : Nat) : Mem → Int32 → Option (Mem) := fx (fX3_putRotations_B2 ) (fun _ _ => none) n
def fX3_putRotations  (σ : Mem) : Option (Mem) :=
    fX3_putRotations_L2  FU σ (0 : Int32)
def fX3_fill_L44    (σ : Mem) (l2 : Int32) : Option (Mem) :=
    if ((l2 >>> ((3 : Int32) &&& 31)) &&& (1 : Int32)) = 0 then (some σ)
    else (bv (fX3_putRotations σ) fun σ6 =>
    some σ6)
def fX3_fill_L31    (σ : Mem) (l2 : Int32) : Option (Mem) :=
    if ((l2 >>> ((2 : Int32) &&& 31)) &&& (1 : Int32)) = 0 then (fX3_fill_L44  σ l2)
    else (bv (fX3_putShifts σ) fun σ7 =>
    fX3_fill_L44  σ7 l2)
def fX3_fill_L18    (σ : Mem) (l2 : Int32) : Option (Mem) :=
    if ((l2 >>> ((1 : Int32) &&& 31)) &&& (1 : Int32)) = 0 then (fX3_fill_L31  σ l2)
    else (bv (fX3_putSwaps σ) fun σ8 =>
    fX3_fill_L31  σ8 l2)
def fX3_fill  (σ : Mem) (a2 : Int32) : Option (Mem) :=
    lt (mst σ 98 1 (0 : Int32)) fun σ9 =>
    if ((a2 >>> ((0 : Int32) &&& 31)) &&& (1 : Int32)) = 0 then (fX3_fill_L18  σ9 a2)
    else (bv (fX3_putSets σ9) fun σ10 =>
    fX3_fill_L18  σ10 a2)
def fX3_shifted  (σ : Mem) (a0 a1 a2 : Int32) : Option (Int32 × Mem) :=
    if a2 = 0 then (if a0 = 0 then (some (a1 - (1 : Int32), σ))
    else (some (a0 - (1 : Int32), σ)))
    else (if a0 = (a1 - (1 : Int32)) then (some ((0 : Int32), σ))
    else (some (a0 + (1 : Int32), σ)))
def fX3_tryOut_L142 (q3 : Nat)   (σ : Mem) (s1 s2 s3 s4 : Int32) : Option (Mem) :=
    bd (fX3_shifted σ s2 s3 s4) fun v10 σ10 =>
    ck s1 10 (lt (mst σ10 q3 s1.toNatClampNeg v10) fun σ11 =>
    some σ11)
def fX3_tryOut (q3 : Nat) (σ : Mem) (a2 : Int32) : Option (Mem) :=
    ck a2 375 (ck a2 375 (ck a2 375 (ckc (0 : Int32) (0 : Int32) (10 : Int32) 10 10 (lt (mcp σ 3 (0 : Int32) q3 (0 : Int32) (10 : Int32)) fun σ12 =>
    ck a2 375 (if (σ12 100 a2.toNatClampNeg) = (0 : Int32) then (ck (σ 101 a2.toNatClampNeg) 10 (lt (mst σ12 q3 (σ 101 a2.toNatClampNeg).toNatClampNeg (σ 102 a2.toNatClampNeg)) fun σ13 =>
    some σ13))
    else (if (σ12 100 a2.toNatClampNeg) = (1 : Int32) then (ck (σ 102 a2.toNatClampNeg) 10 (ck (σ 101 a2.toNatClampNeg) 10 (lt (mst σ12 q3 (σ 101 a2.toNatClampNeg).toNatClampNeg (σ12 3 (σ 102 a2.toNatClampNeg).toNatClampNeg)) fun σ14 =>
    ck (σ 101 a2.toNatClampNeg) 10 (ck (σ 102 a2.toNatClampNeg) 10 (lt (mst σ14 q3 (σ 102 a2.toNatClampNeg).toNatClampNeg (σ14 3 (σ 101 a2.toNatClampNeg).toNatClampNeg)) fun σ15 =>
    some σ15)))))
    else (if (σ12 100 a2.toNatClampNeg) = (2 : Int32) then (ck (σ 101 a2.toNatClampNeg) 10 (ck (σ 101 a2.toNatClampNeg) 10 (if (σ 102 a2.toNatClampNeg) = (1 : Int32) then (fX3_tryOut_L142 q3 σ12 (σ 101 a2.toNatClampNeg) (σ12 3 (σ 101 a2.toNatClampNeg).toNatClampNeg) (σ12 2 (σ 101 a2.toNatClampNeg).toNatClampNeg) (1 : Int32))
    else (fX3_tryOut_L142 q3 σ12 (σ 101 a2.toNatClampNeg) (σ12 3 (σ 101 a2.toNatClampNeg).toNatClampNeg) (σ12 2 (σ 101 a2.toNatClampNeg).toNatClampNeg) (0 : Int32)))))
    else (if (σ12 100 a2.toNatClampNeg) = (3 : Int32) then (ck (σ 101 a2.toNatClampNeg) 10 (ck (σ 102 a2.toNatClampNeg) 10 (lt (mst σ12 q3 (σ 102 a2.toNatClampNeg).toNatClampNeg (σ12 3 (σ 101 a2.toNatClampNeg).toNatClampNeg)) fun σ16 =>
    ck (σ 102 a2.toNatClampNeg) 10 (ck (σ 103 a2.toNatClampNeg) 10 (lt (mst σ16 q3 (σ 103 a2.toNatClampNeg).toNatClampNeg (σ16 3 (σ 102 a2.toNatClampNeg).toNatClampNeg)) fun σ17 =>
    ck (σ 103 a2.toNatClampNeg) 10 (ck (σ 101 a2.toNatClampNeg) 10 (lt (mst σ17 q3 (σ 101 a2.toNatClampNeg).toNatClampNeg (σ17 3 (σ 103 a2.toNatClampNeg).toNatClampNeg)) fun σ18 =>
    some σ18)))))))
    else (some σ12)))))))))
def fX8_costAfter  (σ : Mem) (a2 : Int32) : Option (Int32 × Mem) :=
    bv (fX3_tryOut 86 σ a2) fun σ3 =>
    bd (fX4_costIn 86 σ3) fun v4 σ4 =>
    some (v4, σ4)
def fX8_isBanned  (σ : Mem) (a1 a2 : Int32) : Option (Int32 × Mem) :=
    ck a1 10 (ck a2 8 (if (σ (88 + 1 * a1.toNatClampNeg) a2.toNatClampNeg) ≤ (σ 84 7) then (some ((0 : Int32), σ))
    else (some ((1 : Int32), σ))))
def fX8_isTrialHeld_L51  (r12 : Mem → Int32 → Option (Int32 × Mem))  (σ : Mem) (l3 : Int32) : Option (Int32 × Mem) :=
    r12 σ (l3 + (1 : Int32))
def fX8_isTrialHeld_B12   (r12 : Mem → Int32 → Option (Int32 × Mem)) (σ : Mem) (l3 : Int32) : Option (Int32 × Mem) :=
    if (σ 1 7) ≤ l3 then (some ((0 : Int32), σ))
    else (ck l3 10 (ck l3 10 (if (σ 86 l3.toNatClampNeg) = (σ 3 l3.toNatClampNeg) then (fX8_isTrialHeld_L51 r12 σ l3)
    else (ck l3 10 (bd (fX8_isBanned σ l3 (σ 86 l3.toNatClampNeg)) fun v2 σ2 =>
    if v2 = 0 then (fX8_isTrialHeld_L51 r12 σ2 l3)
    else (some ((1 : Int32), σ2)))))))
def fX8_isTrialHeld_L12   (n : Nat) : Mem → Int32 → Option (Int32 × Mem) := fx (fX8_isTrialHeld_B12 ) (fun _ _ => none) n
def fX8_isTrialHeld  (σ : Mem) (a2 : Int32) : Option (Int32 × Mem) :=
    if (σ 84 5) ≤ a2 then (fX8_isTrialHeld_L12  FU σ (0 : Int32))
    else (some ((0 : Int32), σ))
def fX8_heldMoves_L32  (r4 : Mem → Int32 → Int32 → Option (Int32 × Mem))  (σ : Mem) (l2 l3 : Int32) : Option (Int32 × Mem) :=
    r4 σ l2 (l3 + (1 : Int32))
def fX8_heldMoves_B4   (r4 : Mem → Int32 → Int32 → Option (Int32 × Mem)) (σ : Mem) (l2 l3 : Int32) : Option (Int32 × Mem) :=
    if (σ 98 1) ≤ l3 then (some (l2, σ))
    else (bd (fX8_costAfter σ l3) fun v3 σ3 =>
    bd (fX8_isTrialHeld σ3 v3) fun v4 σ4 =>
    if v4 = 0 then (fX8_heldMoves_L32 r4 σ4 l2 l3)
    else (fX8_heldMoves_L32 r4 σ4 (l2 + (1 : Int32)) l3))
def fX8_heldMoves_L4   (n : Nat) : Mem → Int32 → Int32 → Option (Int32 × Mem) := fx (fX8_heldMoves_B4 ) (fun _ _ _ => none) n
def fX8_heldMoves  (σ : Mem) : Option (Int32 × Mem) :=
    fX8_heldMoves_L4  FU σ (0 : Int32) (0 : Int32)
def fX9_moves  (σ : Mem) (a1 : Int32) : Option (Int32 × Mem) :=
    bv (fX3_fill σ (σ 83 0)) fun σ3 =>
    if a1 = 0 then (some (σ3 98 1, σ3))
    else (bd (fX8_heldMoves σ3) fun v4 σ4 =>
    some (v4, σ4))
def fX9_move_L39    (σ : Mem) : Option ((Int32 ⊕ String) × Mem) :=
    some (.inr "java/lang/IndexOutOfBoundsException", σ)
def fX9_move  (σ : Mem) (a1 a2 : Int32) : Option ((Int32 ⊕ String) × Mem) :=
    bv (fX3_fill σ (σ 83 0)) fun σ9 =>
    if a1 < 0 then (fX9_move_L39  σ9)
    else (if a1 < (σ9 98 1) then (if a2 = (0 : Int32) then (ck a2 4 (ck a1 375 (some (.inl (σ9 (100 + 1 * a2.toNatClampNeg) a1.toNatClampNeg), σ9))))
    else (if a2 = (1 : Int32) then (ck a2 4 (ck a1 375 (some (.inl (σ9 (100 + 1 * a2.toNatClampNeg) a1.toNatClampNeg), σ9))))
    else (if a2 = (2 : Int32) then (ck a2 4 (ck a1 375 (some (.inl (σ9 (100 + 1 * a2.toNatClampNeg) a1.toNatClampNeg), σ9))))
    else (if a2 = (3 : Int32) then (ck a2 4 (ck a1 375 (some (.inl (σ9 (100 + 1 * a2.toNatClampNeg) a1.toNatClampNeg), σ9))))
    else (if a2 = (4 : Int32) then (bd (fX8_costAfter σ9 a1) fun v14 σ14 =>
    some (.inl v14, σ14))
    else (if a2 = (5 : Int32) then (bd (fX8_costAfter σ9 a1) fun v15 σ15 =>
    bd (fX8_isTrialHeld σ15 v15) fun v16 σ16 =>
    if v16 = 0 then (some (.inl (0 : Int32), σ16))
    else (some (.inl (1 : Int32), σ16)))
    else (some (.inr "java/lang/IllegalArgumentException", σ9))))))))
    else (fX9_move_L39  σ9))
def fX8_cheapest_L86  (r18 : Mem → Int32 → Int32 → Int32 → Int32 → Option (Int32 × Mem))  (σ : Mem) (l3 l4 l5 l6 : Int32) : Option (Int32 × Mem) :=
    r18 σ l3 l4 l5 (l6 + (1 : Int32))
def fX8_cheapest_L78  (r18 : Mem → Int32 → Int32 → Int32 → Int32 → Option (Int32 × Mem))  (σ : Mem) (l3 l6 l7 : Int32) : Option (Int32 × Mem) :=
    fX8_cheapest_L86 r18 σ l3 l6 l7 l6
def fX8_cheapest_L57  (r18 : Mem → Int32 → Int32 → Int32 → Int32 → Option (Int32 × Mem))  (σ : Mem) (l3 l4 l5 l6 l7 s0 : Int32) : Option (Int32 × Mem) :=
    if s0 = 0 then (fX8_cheapest_L86 r18 σ l3 l4 l5 l6)
    else (if l3 = 0 then (bd (fX8_isTrialHeld σ l7) fun v4 σ4 =>
    if v4 = 0 then (fX8_cheapest_L78 r18 σ4 l3 l6 l7)
    else (fX8_cheapest_L86 r18 σ4 l3 l4 l5 l6))
    else (fX8_cheapest_L78 r18 σ l3 l6 l7))
def fX8_cheapest_L52  (r18 : Mem → Int32 → Int32 → Int32 → Int32 → Option (Int32 × Mem))  (σ : Mem) (l3 l4 l5 l6 l7 : Int32) : Option (Int32 × Mem) :=
    fX8_cheapest_L57 r18 σ l3 l4 l5 l6 l7 (1 : Int32)
def fX8_cheapest_B18   (r18 : Mem → Int32 → Int32 → Int32 → Int32 → Option (Int32 × Mem)) (σ : Mem) (l3 l4 l5 l6 : Int32) : Option (Int32 × Mem) :=
    if (σ 98 1) ≤ l6 then (some (l4, σ))
    else (bd (fX8_costAfter σ l6) fun v5 σ5 =>
    if l4 = (-1 : Int32) then (fX8_cheapest_L52 r18 σ5 l3 l4 l5 l6 v5)
    else (if l5 ≤ v5 then (fX8_cheapest_L57 r18 σ5 l3 l4 l5 l6 v5 (0 : Int32))
    else (fX8_cheapest_L52 r18 σ5 l3 l4 l5 l6 v5)))
def fX8_cheapest_L18   (n : Nat) : Mem → Int32 → Int32 → Int32 → Int32 → Option (Int32 × Mem) := fx (fX8_cheapest_B18 ) (fun _ _ _ _ _ => none) n
def fX8_cheapest  (σ : Mem) (a2 a3 : Int32) : Option (Int32 × Mem) :=
    bv (fX3_fill σ a2) fun σ6 =>
    fX8_cheapest_L18  FU σ6 a3 (-1 : Int32) (0 : Int32) (0 : Int32)
def fX9_nextMove  (σ : Mem) : Option ((Int32 ⊕ String) × Mem) :=
    bd (fX8_cheapest σ (σ 83 0) (0 : Int32)) fun v2 σ2 =>
    if v2 = (-1 : Int32) then (some (.inr "java/util/NoSuchElementException", σ2))
    else (some (.inl v2, σ2))
def fX9_isForbidden  (σ : Mem) (a1 a2 : Int32) : Option ((Int32 ⊕ String) × Mem) :=
    bx (fX9_checkVariable σ a1) (fun _ σ4 =>
    ck a1 10 (bx (fX9_checkRange σ4 a2 (0 : Int32) ((σ4 2 a1.toNatClampNeg) - (1 : Int32))) (fun _ σ5 =>
    bd (fX8_isBanned σ5 a1 a2) fun v6 σ6 =>
    ckz v6 (some (.inl v6, σ6))) (fun e9 σ5 => some (.inr e9, σ5)))) (fun e9 σ4 => some (.inr e9, σ4))
def fX8_downhill_L26    (σ : Mem) : Option (Int32 × Mem) :=
    some ((-1 : Int32), σ)
def fX8_downhill  (σ : Mem) (a2 : Int32) : Option (Int32 × Mem) :=
    bd (fX8_cheapest σ a2 (1 : Int32)) fun v4 σ4 =>
    if v4 = (-1 : Int32) then (fX8_downhill_L26  σ4)
    else (bd (fX8_costAfter σ4 v4) fun v5 σ5 =>
    bd (fX4_presentCost σ5) fun v6 σ6 =>
    if v5 < v6 then (some (v4, σ6))
    else (fX8_downhill_L26  σ6))
def fX9_isLocalOptimum  (σ : Mem) : Option (Int32 × Mem) :=
    bd (fX8_downhill σ (σ 83 0)) fun v2 σ2 =>
    if v2 = (-1 : Int32) then (some ((1 : Int32), σ2))
    else (some ((0 : Int32), σ2))
def fX8_banLeftValues_L58  (r2 : Mem → Int32 → Int32 → Option (Mem))  (σ : Mem) (l2 l3 : Int32) : Option (Mem) :=
    r2 σ l2 (l3 + (1 : Int32))
def fX8_banLeftValues_B2   (r2 : Mem → Int32 → Int32 → Option (Mem)) (σ : Mem) (l2 l3 : Int32) : Option (Mem) :=
    if (σ 1 7) ≤ l3 then (some σ)
    else (ck l3 10 (ck l3 10 (if (σ 86 l3.toNatClampNeg) = (σ 3 l3.toNatClampNeg) then (fX8_banLeftValues_L58 r2 σ l2 l3)
    else (ck l3 10 (ck l3 10 (ck (σ 3 l3.toNatClampNeg) 8 (ck (σ 3 l3.toNatClampNeg) 8 (lt (mst σ (88 + 1 * l3.toNatClampNeg) (σ 3 l3.toNatClampNeg).toNatClampNeg (if (σ (88 + 1 * l3.toNatClampNeg) (σ 3 l3.toNatClampNeg).toNatClampNeg) < (((σ 84 7) + l2) + (1 : Int32)) then (((σ 84 7) + l2) + (1 : Int32)) else (σ (88 + 1 * l3.toNatClampNeg) (σ 3 l3.toNatClampNeg).toNatClampNeg))) fun σ6 =>
    fX8_banLeftValues_L58 r2 σ6 l2 l3))))))))
def fX8_banLeftValues_L2   (n : Nat) : Mem → Int32 → Int32 → Option (Mem) := fx (fX8_banLeftValues_B2 ) (fun _ _ _ => none) n
def fX8_banLeftValues  (σ : Mem) (a2 : Int32) : Option (Mem) :=
    fX8_banLeftValues_L2  FU σ a2 (0 : Int32)
def fX6_put_L90    (σ : Mem) (s1 s2 : Int32) : Option (Mem) :=
    ck s1 40 (lt (mst σ 112 s1.toNatClampNeg s2) fun σ10 =>
    if (40 : Int32) ≤ (σ10 104 2) then (lt (mst σ10 104 1 (((σ10 104 1) + (1 : Int32)) - ((σ10 104 1) + (1 : Int32)) / (40 : Int32) * (40 : Int32))) fun σ11 =>
    some σ11)
    else (lt (mst σ10 104 2 ((σ10 104 2) + (1 : Int32))) fun σ12 =>
    some σ12))
def fX6_put_B17   (r17 : Mem → Int32 → Int32 → Int32 → Int32 → Int32 → Int32 → Option (Mem)) (σ : Mem) (l2 l3 l4 l5 l6 l7 : Int32) : Option (Mem) :=
    if (4 : Int32) ≤ l7 then (ck l6 40 (lt (mst σ 110 l6.toNatClampNeg l4) fun σ13 =>
    ck l6 40 (lt (mst σ13 111 l6.toNatClampNeg l5) fun σ14 =>
    if l3 ≤ l4 then (fX6_put_L90  σ14 l6 (0 : Int32))
    else (fX6_put_L90  σ14 l6 (1 : Int32)))))
    else (ck l7 7 (ck l7 4 (ck l2 375 (ck l6 40 (lt (mst σ (106 + 1 * l7.toNatClampNeg) l6.toNatClampNeg (σ (100 + 1 * l7.toNatClampNeg) l2.toNatClampNeg)) fun σ17 =>
    r17 σ17 l2 l3 l4 l5 l6 (l7 + (1 : Int32)))))))
def fX6_put_L17   (n : Nat) : Mem → Int32 → Int32 → Int32 → Int32 → Int32 → Int32 → Option (Mem) := fx (fX6_put_B17 ) (fun _ _ _ _ _ _ _ => none) n
def fX6_put  (σ : Mem) (a2 a3 a4 a5 : Int32) : Option (Mem) :=
    li (((σ 104 1) + (σ 104 2)) - ((σ 104 1) + (σ 104 2)) / (40 : Int32) * (40 : Int32)) fun x18 =>
    fX6_put_L17  FU σ a2 a3 a4 a5 x18 (0 : Int32)
def fX8_keepIfBest_L24    (σ : Mem) (l3 : Int32) : Option (Int32 × Mem) :=
    ckz l3 (some (l3, σ))
def fX8_keepIfBest_L13    (σ : Mem) (l2 s0 : Int32) : Option (Int32 × Mem) :=
    if s0 = 0 then (fX8_keepIfBest_L24  σ s0)
    else (bv (fX8_keepBest σ l2) fun σ2 =>
    fX8_keepIfBest_L24  σ2 s0)
def fX8_keepIfBest  (σ : Mem) (a2 : Int32) : Option (Int32 × Mem) :=
    if (σ 84 5) ≤ a2 then (fX8_keepIfBest_L13  σ a2 (0 : Int32))
    else (fX8_keepIfBest_L13  σ a2 (1 : Int32))
def fX5_nextSeed  (σ : Mem) : Option (Int32 × Mem) :=
    lt (mst σ 83 3 ((((σ 83 3) * (1103515245 : Int32)) + (12345 : Int32)) &&& (2147483647 : Int32))) fun σ2 =>
    some (σ2 83 3, σ2)
def fX8_startAnew_L46  (r2 : Mem → Int32 → Option (Mem))  (σ : Mem) (l3 s1 s2 : Int32) : Option (Mem) :=
    ck s1 10 (lt (mst σ 3 s1.toNatClampNeg s2) fun σ9 =>
    r2 σ9 (l3 + (1 : Int32)))
def fX8_startAnew_B2   (r2 : Mem → Int32 → Option (Mem)) (σ : Mem) (l3 : Int32) : Option (Mem) :=
    if (σ 1 7) ≤ l3 then (bv (fX8_freeAll σ) fun σ10 =>
    lt (mst σ10 84 8 (0 : Int32)) fun σ11 =>
    lt (mst σ11 84 9 ((σ11 84 9) + (1 : Int32))) fun σ12 =>
    bd (fX4_costIn 3 σ12) fun v13 σ13 =>
    bd (fX8_keepIfBest σ13 v13) fun v14 σ14 =>
    some σ14)
    else (bd (fX5_nextSeed σ) fun v15 σ15 =>
    li (v15 >>> ((16 : Int32) &&& 31)) fun x16 =>
    ck l3 10 (if (σ15 2 l3.toNatClampNeg) ≤ 0 then (fX8_startAnew_L46 r2 σ15 l3 l3 (0 : Int32))
    else (ckn (σ15 2 l3.toNatClampNeg) (fX8_startAnew_L46 r2 σ15 l3 l3 (x16 - x16 / (σ15 2 l3.toNatClampNeg) * (σ15 2 l3.toNatClampNeg))))))
def fX8_startAnew_L2   (n : Nat) : Mem → Int32 → Option (Mem) := fx (fX8_startAnew_B2 ) (fun _ _ => none) n
def fX8_startAnew  (σ : Mem) : Option (Mem) :=
    fX8_startAnew_L2  FU σ (0 : Int32)
def fX8_tryStep_L120    (σ : Mem) : Option (Int32 × Mem) :=
    some ((1 : Int32), σ)
def fX8_tryStep_L100    (σ : Mem) (s1 : Int32) : Option (Int32 × Mem) :=
    lt (mst σ 84 8 s1) fun σ11 =>
    if (σ11 84 8) < (σ11 83 2) then (fX8_tryStep_L120  σ11)
    else (bv (fX8_startAnew σ11) fun σ12 =>
    fX8_tryStep_L120  σ12)
def fX8_tryStep  (σ : Mem) : Option (Int32 × Mem) :=
    bd (fX8_cheapest σ (σ 83 0) (0 : Int32)) fun v13 σ13 =>
    if v13 = (-1 : Int32) then (some ((0 : Int32), σ13))
    else (bd (fX4_presentCost σ13) fun v14 σ14 =>
    bd (fX8_costAfter σ14 v13) fun v15 σ15 =>
    lt (mst σ15 84 7 ((σ15 84 7) + (1 : Int32))) fun σ16 =>
    bv (fX8_banLeftValues σ16 (σ16 83 1)) fun σ17 =>
    bv (fX4_takeValues 86 σ17) fun σ18 =>
    bv (fX6_put σ18 v13 v14 v15 (σ18 84 7)) fun σ19 =>
    bd (fX8_keepIfBest σ19 v15) fun v20 σ20 =>
    if v20 = 0 then (fX8_tryStep_L100  σ20 ((σ20 84 8) + (1 : Int32)))
    else (fX8_tryStep_L100  σ20 (0 : Int32)))
def fX9_step  (σ : Mem) : Option ((Int32 ⊕ String) × Mem) :=
    bd (fX8_tryStep σ) fun v3 σ3 =>
    if v3 = 0 then (some (.inr "java/util/NoSuchElementException", σ3))
    else (bd (fX4_presentCost σ3) fun v4 σ4 =>
    some (.inl v4, σ4))
def fX9_run_L42    (σ : Mem) (l2 : Int32) : Option ((Int32 ⊕ String) × Mem) :=
    some (.inl l2, σ)
def fX9_run_B9   (r9 : Mem → Int32 → Int32 → Option ((Int32 ⊕ String) × Mem)) (σ : Mem) (l1 l2 : Int32) : Option ((Int32 ⊕ String) × Mem) :=
    if l1 ≤ l2 then (some (.inl l1, σ))
    else (bd (fX4_presentCost σ) fun v4 σ4 =>
    if v4 = 0 then (fX9_run_L42  σ4 l2)
    else (bd (fX8_tryStep σ4) fun v5 σ5 =>
    if v5 = 0 then (fX9_run_L42  σ5 l2)
    else (r9 σ5 l1 (l2 + (1 : Int32)))))
def fX9_run_L9   (n : Nat) : Mem → Int32 → Int32 → Option ((Int32 ⊕ String) × Mem) := fx (fX9_run_B9 ) (fun _ _ _ => none) n
def fX9_run  (σ : Mem) (a1 : Int32) : Option ((Int32 ⊕ String) × Mem) :=
    bx (fX9_checkRange σ a1 (1 : Int32) (30 : Int32)) (fun _ σ6 =>
    fX9_run_L9  FU σ6 a1 (0 : Int32)) (fun e9 σ6 => some (.inr e9, σ6))
def fX8_goDown  (σ : Mem) (a2 : Int32) : Option (Mem) :=
    bd (fX8_costAfter σ a2) fun v4 σ4 =>
    bv (fX4_takeValues 86 σ4) fun σ5 =>
    bd (fX8_keepIfBest σ5 v4) fun v6 σ6 =>
    some σ6
def fX9_descend_B2   (r2 : Mem → Int32 → Option (Int32 × Mem)) (σ : Mem) (l1 : Int32) : Option (Int32 × Mem) :=
    if (1000000 : Int32) ≤ l1 then (some ((1000000 : Int32), σ))
    else (bd (fX8_downhill σ (σ 83 0)) fun v3 σ3 =>
    if v3 = (-1 : Int32) then (some (l1, σ3))
    else (bv (fX8_goDown σ3 v3) fun σ4 =>
    r2 σ4 (l1 + (1 : Int32))))
def fX9_descend_L2   (n : Nat) : Mem → Int32 → Option (Int32 × Mem) := fx (fX9_descend_B2 ) (fun _ _ => none) n
def fX9_descend  (σ : Mem) : Option (Int32 × Mem) :=
    fX9_descend_L2  FU σ (0 : Int32)
def fX9_restart  (σ : Mem) : Option (Int32 × Mem) :=
    bv (fX8_startAnew σ) fun σ3 =>
    bd (fX4_presentCost σ3) fun v4 σ4 =>
    some (v4, σ4)
def fX9_search  (σ : Mem) (a1 : Int32) : Option ((Int32 ⊕ String) × Mem) :=
    if a1 = (0 : Int32) then (some (.inl (σ 84 7), σ))
    else (if a1 = (1 : Int32) then (some (.inl (σ 84 8), σ))
    else (if a1 = (2 : Int32) then (some (.inl (σ 84 9), σ))
    else (if a1 = (3 : Int32) then (some (.inl (σ 83 3), σ))
    else (if a1 = (4 : Int32) then (some (.inl (σ 84 6), σ))
    else (some (.inr "java/lang/IllegalArgumentException", σ))))))
def fX9_logSize  (σ : Mem) : Option (Int32 × Mem) :=
    some (σ 104 2, σ)
def fX6_partAt  (σ : Mem) (a1 a2 : Int32) : Option (Int32 × Mem) :=
    ck a2 7 (ck (((σ 104 1) + a1) - ((σ 104 1) + a1) / (40 : Int32) * (40 : Int32)) 40 (some (σ (106 + 1 * a2.toNatClampNeg) (((σ 104 1) + a1) - ((σ 104 1) + a1) / (40 : Int32) * (40 : Int32)).toNatClampNeg, σ)))
def fX9_log_L18    (σ : Mem) : Option ((Int32 ⊕ String) × Mem) :=
    some (.inr "java/lang/IndexOutOfBoundsException", σ)
def fX9_log  (σ : Mem) (a1 a2 : Int32) : Option ((Int32 ⊕ String) × Mem) :=
    if a1 < 0 then (fX9_log_L18  σ)
    else (if a1 < (σ 104 2) then (bx (fX9_checkRange σ a2 (0 : Int32) (5 : Int32)) (fun _ σ3 =>
    bd (fX6_partAt σ3 a1 a2) fun v4 σ4 =>
    some (.inl v4, σ4)) (fun e9 σ3 => some (.inr e9, σ3)))
    else (fX9_log_L18  σ))
def fX6_improvements_B4   (r4 : Mem → Int32 → Int32 → Option (Int32 × Mem)) (σ : Mem) (l1 l2 : Int32) : Option (Int32 × Mem) :=
    if (σ 104 2) ≤ l2 then (some (l1, σ))
    else (bd (fX6_partAt σ l2 (6 : Int32)) fun v2 σ2 =>
    r4 σ2 (l1 + v2) (l2 + (1 : Int32)))
def fX6_improvements_L4   (n : Nat) : Mem → Int32 → Int32 → Option (Int32 × Mem) := fx (fX6_improvements_B4 ) (fun _ _ _ => none) n
def fX6_improvements  (σ : Mem) : Option (Int32 × Mem) :=
    fX6_improvements_L4  FU σ (0 : Int32) (0 : Int32)
def fX9_improvingShare  (σ : Mem) : Option ((UInt64 ⊕ String) × Mem) :=
    if (σ 104 2) = 0 then (some (.inr "java/lang/ArithmeticException", σ))
    else (bd (fX6_improvements σ) fun v2 σ2 =>
    ckd (FP.ddiv (FP.i2d v2) (FP.i2d (σ 104 2))) (some (.inl (FP.ddiv (FP.i2d v2) (FP.i2d (σ 104 2))), σ2)))
def fX7_weigh_L53  (r7 : Mem → Int32 → Int32 → Int32 → Option (Mem))  (σ : Mem) (l2 l3 l4 : Int32) : Option (Mem) :=
    r7 σ l2 l3 (l4 + (1 : Int32))
def fX7_weigh_B7   (r7 : Mem → Int32 → Int32 → Int32 → Option (Mem)) (σ : Mem) (l2 l3 l4 : Int32) : Option (Mem) :=
    if (σ 1 8) ≤ l4 then (lt (mst σ 113 5 (if (σ 113 5) < l2 then l2 else (σ 113 5))) fun σ11 =>
    if (σ11 113 3) ≤ l2 then (if l2 = (σ11 113 3) then (lt (mst σ11 113 4 ((σ11 113 4) + (1 : Int32))) fun σ12 =>
    lt (mst σ12 113 6 ((σ12 113 6) &&& l3)) fun σ13 =>
    some σ13)
    else (some σ11))
    else (lt (mst σ11 113 3 l2) fun σ14 =>
    lt (mst σ14 113 4 (1 : Int32)) fun σ15 =>
    lt (mst σ15 113 6 l3) fun σ16 =>
    ckc (0 : Int32) (0 : Int32) (10 : Int32) 10 10 (lt (mcp σ16 114 (0 : Int32) 115 (0 : Int32) (10 : Int32)) fun σ17 =>
    some σ17)))
    else (bd (fX4_violationIn 114 σ l4) fun v18 σ18 =>
    ck l4 20 (li (l2 + ((σ18 7 l4.toNatClampNeg) * v18)) fun x19 =>
    if v18 ≤ 0 then (fX7_weigh_L53 r7 σ18 x19 l3 l4)
    else (li (l3 ||| ((1 : Int32) <<< (l4 &&& 31))) fun x20 =>
    fX7_weigh_L53 r7 σ18 x19 x20 l4)))
def fX7_weigh_L7   (n : Nat) : Mem → Int32 → Int32 → Int32 → Option (Mem) := fx (fX7_weigh_B7 ) (fun _ _ _ _ => none) n
def fX7_weigh  (σ : Mem) : Option (Mem) :=
    fX7_weigh_L7  FU σ (0 : Int32) (0 : Int32) (0 : Int32)
def fX7_advance_B7   (r7 : Mem → Int32 → Option (Mem)) (σ : Mem) (l2 : Int32) : Option (Mem) :=
    if l2 < 0 then (some σ)
    else (ck l2 10 (ck l2 10 (lt (mst σ 114 l2.toNatClampNeg ((σ 114 l2.toNatClampNeg) + (1 : Int32))) fun σ3 =>
    ck l2 10 (ck l2 10 (if (σ3 2 l2.toNatClampNeg) ≤ (σ3 114 l2.toNatClampNeg) then (ck l2 10 (lt (mst σ3 114 l2.toNatClampNeg (0 : Int32)) fun σ4 =>
    r7 σ4 (l2 + (-1 : Int32))))
    else (some σ3))))))
def fX7_advance_L7   (n : Nat) : Mem → Int32 → Option (Mem) := fx (fX7_advance_B7 ) (fun _ _ => none) n
def fX7_advance  (σ : Mem) : Option (Mem) :=
    fX7_advance_L7  FU σ ((σ 1 7) - (1 : Int32))
def fX7_explore_B26   (r26 : Mem → Int32 → Int32 → Option (Mem)) (σ : Mem) (l2 l3 : Int32) : Option (Mem) :=
    if l2 ≤ l3 then (lt (mst σ 113 2 (1 : Int32)) fun σ8 =>
    some σ8)
    else (bv (fX7_weigh σ) fun σ9 =>
    bv (fX7_advance σ9) fun σ10 =>
    r26 σ10 l2 (l3 + (1 : Int32)))
def fX7_explore_L26   (n : Nat) : Mem → Int32 → Int32 → Option (Mem) := fx (fX7_explore_B26 ) (fun _ _ _ => none) n
def fX7_explore  (σ : Mem) : Option (Mem) :=
    bv (fJ7_fill_53178 114 10 σ (0 : Int32)) fun σ11 =>
    lt (mst σ11 113 3 (1000000 : Int32)) fun σ12 =>
    lt (mst σ12 113 5 (0 : Int32)) fun σ13 =>
    bd (fX4_combinations σ13) fun v14 σ14 =>
    fX7_explore_L26  FU σ14 v14 (0 : Int32)
def fX9_exploreAll  (σ : Mem) : Option ((Unit ⊕ String) × Mem) :=
    bd (fX4_combinations σ) fun v3 σ3 =>
    if v3 ≤ (5000 : Int32) then (if (σ3 113 2) = 0 then (bv (fX7_explore σ3) fun σ4 =>
    some (.inl (), σ4))
    else (some (.inl (), σ3)))
    else (some (.inr "java/lang/IllegalStateException", σ3))
def fX9_optimum  (σ : Mem) : Option ((Int32 ⊕ String) × Mem) :=
    bx (fX9_exploreAll σ) (fun _ σ2 =>
    some (.inl (σ2 113 3), σ2)) (fun e9 σ2 => some (.inr e9, σ2))
def fX9_optima  (σ : Mem) : Option ((Int32 ⊕ String) × Mem) :=
    bx (fX9_exploreAll σ) (fun _ σ2 =>
    some (.inl (σ2 113 4), σ2)) (fun e9 σ2 => some (.inr e9, σ2))
def fX9_optimalValue  (σ : Mem) (a1 : Int32) : Option ((Int32 ⊕ String) × Mem) :=
    bx (fX9_checkVariable σ a1) (fun _ σ3 =>
    bx (fX9_exploreAll σ3) (fun _ σ4 =>
    ck a1 10 (some (.inl (σ4 115 a1.toNatClampNeg), σ4))) (fun e9 σ4 => some (.inr e9, σ4))) (fun e9 σ3 => some (.inr e9, σ3))
def fX9_worst  (σ : Mem) : Option ((Int32 ⊕ String) × Mem) :=
    bx (fX9_exploreAll σ) (fun _ σ2 =>
    some (.inl (σ2 113 5), σ2)) (fun e9 σ2 => some (.inr e9, σ2))
def fX9_unavoidable  (σ : Mem) : Option ((Int32 ⊕ String) × Mem) :=
    bx (fX9_exploreAll σ) (fun _ σ3 =>
    bd (fJ6_bitCount_0f7a4 σ3 (σ3 113 6)) fun v4 σ4 =>
    some (.inl v4, σ4)) (fun e9 σ3 => some (.inr e9, σ3))
def fX2_put  (σ : Mem) (a1 : Int32) : Option (Mem) :=
    ck (σ 116 1) 60 (lt (mst σ 117 (σ 116 1).toNatClampNeg (vp_nar .char a1)) fun σ3 =>
    lt (mst σ3 116 1 ((σ3 116 1) + (1 : Int32))) fun σ4 =>
    some σ4)
def fX9_append  (σ : Mem) (a1 : Int32) : Option ((Int32 ⊕ String) × Mem) :=
    bx (fX9_checkRange σ a1 (32 : Int32) (126 : Int32)) (fun _ σ3 =>
    if (σ3 116 1) < (60 : Int32) then (bv (fX2_put σ3 a1) fun σ4 =>
    some (.inl (σ4 116 1), σ4))
    else (some (.inr "java/lang/IllegalStateException", σ3))) (fun e9 σ3 => some (.inr e9, σ3))
def fX2_take_L37    (σ : Mem) : Option (Int32 × Mem) :=
    some ((-1 : Int32), σ)
def fX2_take  (σ : Mem) (a1 a2 : Int32) : Option (Int32 × Mem) :=
    if (σ 116 1) ≤ (σ 116 2) then (fX2_take_L37  σ)
    else (ck (σ 116 2) 60 (if (σ 117 (σ 116 2).toNatClampNeg) < a1 then (fX2_take_L37  σ)
    else (ck (σ 116 2) 60 (if (σ 117 (σ 116 2).toNatClampNeg) ≤ a2 then (lt (mst σ 116 2 ((σ 116 2) + (1 : Int32))) fun σ2 =>
    ck ((σ2 116 2) - (1 : Int32)) 60 (some (σ2 117 ((σ2 116 2) - (1 : Int32)).toNatClampNeg, σ2)))
    else (fX2_take_L37  σ)))))
def fX2_parseSize  (σ : Mem) : Option (Int32 × Mem) :=
    bd (fX2_take σ (50 : Int32) (56 : Int32)) fun v4 σ4 =>
    ck (σ4 116 7) 20 (lt (mst σ4 118 (σ4 116 7).toNatClampNeg (-1 : Int32)) fun σ5 =>
    ck (σ5 116 7) 20 (lt (mst σ5 120 (σ5 116 7).toNatClampNeg (v4 - (48 : Int32))) fun σ6 =>
    if v4 = (-1 : Int32) then (some ((0 : Int32), σ6))
    else (some ((1 : Int32), σ6))))
def fX2_parseKind  (σ : Mem) : Option (Int32 × Mem) :=
    bd (fX2_take σ (97 : Int32) (102 : Int32)) fun v3 σ3 =>
    ck (σ3 116 7) 20 (lt (mst σ3 118 (σ3 116 7).toNatClampNeg (v3 - (97 : Int32))) fun σ4 =>
    if v3 = (-1 : Int32) then (some ((0 : Int32), σ4))
    else (some ((1 : Int32), σ4)))
def fX2_parseMembers_L81  (r52 : Mem → Int32 → Int32 → Option (Int32 × Mem))  (σ : Mem) (l3 l4 : Int32) : Option (Int32 × Mem) :=
    r52 σ l3 (l4 + (1 : Int32))
def fX2_parseMembers_B52   (r52 : Mem → Int32 → Int32 → Option (Int32 × Mem)) (σ : Mem) (l3 l4 : Int32) : Option (Int32 × Mem) :=
    if (57 : Int32) < l4 then (ck (σ 116 7) 20 (lt (mst σ 119 (σ 116 7).toNatClampNeg l3) fun σ8 =>
    bd (fX2_take σ8 (58 : Int32) (58 : Int32)) fun v9 σ9 =>
    if v9 = (-1 : Int32) then (some ((0 : Int32), σ9))
    else (some ((1 : Int32), σ9))))
    else (bd (fX2_take σ l4 l4) fun v10 σ10 =>
    if v10 = (-1 : Int32) then (fX2_parseMembers_L81 r52 σ10 l3 l4)
    else (li (l3 ||| ((1 : Int32) <<< ((l4 - (48 : Int32)) &&& 31))) fun x11 =>
    fX2_parseMembers_L81 r52 σ10 x11 l4))
def fX2_parseMembers_L52   (n : Nat) : Mem → Int32 → Int32 → Option (Int32 × Mem) := fx (fX2_parseMembers_B52 ) (fun _ _ _ => none) n
def fX2_parseMembers  (σ : Mem) : Option (Int32 × Mem) :=
    bd (fX2_take σ (48 : Int32) (56 : Int32)) fun v12 σ12 =>
    if v12 = (-1 : Int32) then (some ((0 : Int32), σ12))
    else (bd (fX2_take σ12 (v12 + (1 : Int32)) (57 : Int32)) fun v13 σ13 =>
    if v13 = (-1 : Int32) then (some ((0 : Int32), σ13))
    else (li (((1 : Int32) <<< ((v12 - (48 : Int32)) &&& 31)) ||| ((1 : Int32) <<< ((v13 - (48 : Int32)) &&& 31))) fun x14 =>
    fX2_parseMembers_L52  FU σ13 x14 (v13 + (1 : Int32))))
def fX2_parseNumber_L97    (σ : Mem) (s1 s2 : Int32) : Option (Int32 × Mem) :=
    ck s1 20 (lt (mst σ 120 s1.toNatClampNeg s2) fun σ7 =>
    bd (fX2_take σ7 (42 : Int32) (42 : Int32)) fun v8 σ8 =>
    if v8 = (-1 : Int32) then (some ((0 : Int32), σ8))
    else (some ((1 : Int32), σ8)))
def fX2_parseNumber_L79    (σ : Mem) (l1 l3 : Int32) : Option (Int32 × Mem) :=
    if l1 = 0 then (fX2_parseNumber_L97  σ (σ 116 7) l3)
    else (fX2_parseNumber_L97  σ (σ 116 7) (-l3))
def fX2_parseNumber_L17    (σ : Mem) (s0 : Int32) : Option (Int32 × Mem) :=
    bd (fX2_take σ (48 : Int32) (57 : Int32)) fun v9 σ9 =>
    if v9 = (-1 : Int32) then (some ((0 : Int32), σ9))
    else (bd (fX2_take σ9 (48 : Int32) ((48 : Int32) + (if ((50 : Int32) - ((10 : Int32) * (v9 - (48 : Int32)))) < (9 : Int32) then ((50 : Int32) - ((10 : Int32) * (v9 - (48 : Int32)))) else (9 : Int32)))) fun v10 σ10 =>
    if v10 = (-1 : Int32) then (fX2_parseNumber_L79  σ10 s0 (v9 - (48 : Int32)))
    else (li ((((10 : Int32) * (v9 - (48 : Int32))) + v10) - (48 : Int32)) fun x11 =>
    fX2_parseNumber_L79  σ10 s0 x11))
def fX2_parseNumber  (σ : Mem) : Option (Int32 × Mem) :=
    bd (fX2_take σ (45 : Int32) (45 : Int32)) fun v12 σ12 =>
    if v12 = (-1 : Int32) then (fX2_parseNumber_L17  σ12 (0 : Int32))
    else (fX2_parseNumber_L17  σ12 (1 : Int32))
def fX2_parseWeight  (σ : Mem) : Option (Int32 × Mem) :=
    bd (fX2_take σ (49 : Int32) (57 : Int32)) fun v3 σ3 =>
    ck (σ3 116 7) 20 (lt (mst σ3 121 (σ3 116 7).toNatClampNeg (v3 - (48 : Int32))) fun σ4 =>
    if v3 = (-1 : Int32) then (some ((0 : Int32), σ4))
    else (some ((1 : Int32), σ4)))
def fX2_parseEntry_L49    (σ : Mem) : Option (Int32 × Mem) :=
    some ((0 : Int32), σ)
def fX2_parseEntry  (σ : Mem) : Option (Int32 × Mem) :=
    bd (fX2_take σ (118 : Int32) (118 : Int32)) fun v7 σ7 =>
    if v7 = (-1 : Int32) then (bd (fX2_parseKind σ7) fun v8 σ8 =>
    if v8 = 0 then (fX2_parseEntry_L49  σ8)
    else (bd (fX2_parseMembers σ8) fun v9 σ9 =>
    if v9 = 0 then (fX2_parseEntry_L49  σ9)
    else (bd (fX2_parseNumber σ9) fun v10 σ10 =>
    if v10 = 0 then (fX2_parseEntry_L49  σ10)
    else (bd (fX2_parseWeight σ10) fun v11 σ11 =>
    if v11 = 0 then (fX2_parseEntry_L49  σ11)
    else (some ((1 : Int32), σ11))))))
    else (bd (fX2_parseSize σ7) fun v12 σ12 =>
    ckz v12 (some (v12, σ12)))
def fX2_parse_L38    (σ : Mem) : Option (Int32 × Mem) :=
    some ((0 : Int32), σ)
def fX2_parse_B10   (r10 : Mem → Option (Int32 × Mem)) (σ : Mem) : Option (Int32 × Mem) :=
    if (20 : Int32) ≤ (σ 116 7) then (some ((0 : Int32), σ))
    else (bd (fX2_parseEntry σ) fun v6 σ6 =>
    if v6 = 0 then (fX2_parse_L38  σ6)
    else (bd (fX2_take σ6 (59 : Int32) (59 : Int32)) fun v7 σ7 =>
    if v7 = (-1 : Int32) then (fX2_parse_L38  σ7)
    else (lt (mst σ7 116 7 ((σ7 116 7) + (1 : Int32))) fun σ8 =>
    if (σ8 116 2) = (σ8 116 1) then (some ((1 : Int32), σ8))
    else (r10 σ8))))
def fX2_parse_L10   (n : Nat) : Mem → Option (Int32 × Mem) := fx (fX2_parse_B10 ) (fun _  => none) n
def fX2_parse  (σ : Mem) : Option (Int32 × Mem) :=
    lt (mst σ 116 2 (0 : Int32)) fun σ9 =>
    lt (mst σ9 116 7 (0 : Int32)) fun σ10 =>
    fX2_parse_L10  FU σ10
def fX2_fits_L83    (σ : Mem) : Option (Int32 × Mem) :=
    some ((0 : Int32), σ)
def fX2_fits_L61  (r13 : Mem → Int32 → Int32 → Int32 → Option (Int32 × Mem))  (σ : Mem) (l2 l3 l4 : Int32) : Option (Int32 × Mem) :=
    r13 σ l2 l3 (l4 + (1 : Int32))
def fX2_fits_B13   (r13 : Mem → Int32 → Int32 → Int32 → Option (Int32 × Mem)) (σ : Mem) (l2 l3 l4 : Int32) : Option (Int32 × Mem) :=
    if (σ 116 7) ≤ l4 then (if (10 : Int32) < l2 then (fX2_fits_L83  σ)
    else (if (20 : Int32) < l3 then (fX2_fits_L83  σ)
    else (some ((1 : Int32), σ))))
    else (ck l4 20 (if (σ 118 l4.toNatClampNeg) = (-1 : Int32) then (fX2_fits_L61 r13 σ (l2 + (1 : Int32)) l3 l4)
    else (ck l4 20 (bd (fX9_areMembers σ (σ 119 l4.toNatClampNeg) l2) fun v2 σ2 =>
    if v2 = 0 then (some ((0 : Int32), σ2))
    else (fX2_fits_L61 r13 σ2 l2 (l3 + (1 : Int32)) l4)))))
def fX2_fits_L13   (n : Nat) : Mem → Int32 → Int32 → Int32 → Option (Int32 × Mem) := fx (fX2_fits_B13 ) (fun _ _ _ _ => none) n
def fX2_fits  (σ : Mem) : Option (Int32 × Mem) :=
    fX2_fits_L13  FU σ (σ 1 7) (σ 1 8) (0 : Int32)
def fX2_addTo_L61  (r2 : Mem → Int32 → Option (Mem))  (σ : Mem) (l2 : Int32) : Option (Mem) :=
    r2 σ (l2 + (1 : Int32))
def fX2_addTo_B2   (r2 : Mem → Int32 → Option (Mem)) (σ : Mem) (l2 : Int32) : Option (Mem) :=
    if (σ 116 7) ≤ l2 then (some σ)
    else (ck l2 20 (if (σ 118 l2.toNatClampNeg) = (-1 : Int32) then (ck l2 20 (bv (fX4_putVariable σ (σ 120 l2.toNatClampNeg)) fun σ4 =>
    fX2_addTo_L61 r2 σ4 l2))
    else (ck l2 20 (ck l2 20 (ck l2 20 (ck l2 20 (bv (fX4_putConstraint σ (σ 118 l2.toNatClampNeg) (σ 119 l2.toNatClampNeg) (σ 120 l2.toNatClampNeg) (σ 121 l2.toNatClampNeg)) fun σ3 =>
    fX2_addTo_L61 r2 σ3 l2)))))))
def fX2_addTo_L2   (n : Nat) : Mem → Int32 → Option (Mem) := fx (fX2_addTo_B2 ) (fun _ _ => none) n
def fX2_addTo  (σ : Mem) : Option (Mem) :=
    fX2_addTo_L2  FU σ (0 : Int32)
def fX9_read  (σ : Mem) : Option ((Int32 ⊕ String) × Mem) :=
    bd (fX2_parse σ) fun v8 σ8 =>
    lt (mst σ8 116 1 (0 : Int32)) fun σ9 =>
    if v8 = 0 then (lt (mst σ9 0 9 (σ9 116 2)) fun σ14 =>
    some (.inr "java/lang/IllegalArgumentException", σ14))
    else (bd (fX2_fits σ9) fun v10 σ10 =>
    if v10 = 0 then (some (.inr "java/lang/IllegalStateException", σ10))
    else (bv (fX1_remember σ10) fun σ11 =>
    bv (fX2_addTo σ11) fun σ12 =>
    bv (fX9_beginSearch σ12) fun σ13 =>
    some (.inl (σ13 116 7), σ13)))
def fX9_errorPosition  (σ : Mem) : Option ((Int32 ⊕ String) × Mem) :=
    if (σ 0 9) = (-1 : Int32) then (some (.inr "java/util/NoSuchElementException", σ))
    else (some (.inl (σ 0 9), σ))
def fX0_put  (σ : Mem) (a1 : Int32) : Option (Mem) :=
    if (18 : Int32) ≤ (σ 122 1) then (some σ)
    else (ck (σ 122 1) 18 (lt (mst σ 123 (σ 122 1).toNatClampNeg (vp_nar .char ((a1.toUInt32 % 65536).toInt32))) fun σ3 =>
    lt (mst σ3 122 1 ((σ3 122 1) + (1 : Int32))) fun σ4 =>
    some σ4))
def fX0_putNumber_L32    (σ : Mem) (l2 : Int32) : Option (Mem) :=
    bv (fX0_put σ ((48 : Int32) + (l2 - l2 / (10 : Int32) * (10 : Int32)))) fun σ5 =>
    some σ5
def fX0_putNumber_L15    (σ : Mem) (l2 : Int32) : Option (Mem) :=
    if l2 ≤ (9 : Int32) then (fX0_putNumber_L32  σ l2)
    else (bv (fX0_put σ ((48 : Int32) + (l2 / (10 : Int32)))) fun σ6 =>
    fX0_putNumber_L32  σ6 l2)
def fX0_putNumber  (σ : Mem) (a1 : Int32) : Option (Mem) :=
    li (if 0 ≤ a1 then a1 else 0 - a1) fun x7 =>
    if 0 ≤ a1 then (fX0_putNumber_L15  σ x7)
    else (bv (fX0_put σ (45 : Int32)) fun σ8 =>
    fX0_putNumber_L15  σ8 x7)
def fX0_write_L45  (r20 : Mem → Int32 → Int32 → Option (Mem))  (σ : Mem) (l2 l3 : Int32) : Option (Mem) :=
    r20 σ l2 (l3 + (1 : Int32))
def fX0_write_B20   (r20 : Mem → Int32 → Int32 → Option (Mem)) (σ : Mem) (l2 l3 : Int32) : Option (Mem) :=
    if (σ 1 7) ≤ l3 then (bv (fX0_put σ (58 : Int32)) fun σ10 =>
    ck l2 20 (bv (fX0_putNumber σ10 (σ10 6 l2.toNatClampNeg)) fun σ11 =>
    bv (fX0_put σ11 (42 : Int32)) fun σ12 =>
    ck l2 20 (bv (fX0_putNumber σ12 (σ12 7 l2.toNatClampNeg)) fun σ13 =>
    bv (fX0_put σ13 (59 : Int32)) fun σ14 =>
    some σ14)))
    else (bd (fX4_isMember σ l3 l2) fun v15 σ15 =>
    if v15 = 0 then (fX0_write_L45 r20 σ15 l2 l3)
    else (bv (fX0_put σ15 ((48 : Int32) + l3)) fun σ16 =>
    fX0_write_L45 r20 σ16 l2 l3))
def fX0_write_L20   (n : Nat) : Mem → Int32 → Int32 → Option (Mem) := fx (fX0_write_B20 ) (fun _ _ _ => none) n
def fX0_write  (σ : Mem) (a2 : Int32) : Option (Mem) :=
    lt (mst σ 122 1 (0 : Int32)) fun σ17 =>
    ck a2 20 (bv (fX0_put σ17 ((97 : Int32) + (σ17 4 a2.toNatClampNeg))) fun σ18 =>
    fX0_write_L20  FU σ18 a2 (0 : Int32))
def fX9_describe_L45    (σ : Mem) : Option ((Int32 ⊕ String) × Mem) :=
    some (.inr "java/util/NoSuchElementException", σ)
def fX9_describe  (σ : Mem) (a1 a2 : Int32) : Option ((Int32 ⊕ String) × Mem) :=
    bx (fX9_checkConstraint σ a1) (fun _ σ3 =>
    bv (fX0_write σ3 a1) fun σ4 =>
    if a2 = (-1 : Int32) then (some (.inl (σ4 122 1), σ4))
    else (if a2 < 0 then (fX9_describe_L45  σ4)
    else (if a2 < (σ4 122 1) then (ck a2 18 (some (.inl (σ4 123 a2.toNatClampNeg), σ4)))
    else (fX9_describe_L45  σ4)))) (fun e9 σ3 => some (.inr e9, σ3))
def fX1_bringBack  (σ : Mem) : Option (Mem) :=
    lt (mst σ 81 2 ((σ 81 2) - (1 : Int32))) fun σ4 =>
    ck (((σ4 81 1) + (σ4 81 2)) - ((σ4 81 1) + (σ4 81 2)) / (8 : Int32) * (8 : Int32)) 8 (bv (fX4_copyFrom 1 (17 + 8 * (((σ4 81 1) + (σ4 81 2)) - ((σ4 81 1) + (σ4 81 2)) / (8 : Int32) * (8 : Int32)).toNatClampNeg) σ4) fun σ6 =>
    some σ6)
def fX9_undo  (σ : Mem) : Option ((Int32 ⊕ String) × Mem) :=
    if (σ 81 2) = 0 then (some (.inr "java/util/NoSuchElementException", σ))
    else (bv (fX1_bringBack σ) fun σ3 =>
    bv (fX9_beginSearch σ3) fun σ4 =>
    some (.inl (σ4 81 2), σ4))
def fX9_save  (σ : Mem) : Option (Int32 × Mem) :=
    bv (fX4_copyFrom 9 1 σ) fun σ3 =>
    lt (mst σ3 0 8 (1 : Int32)) fun σ4 =>
    some (σ4 9 7, σ4)
def fX9_restore  (σ : Mem) : Option ((Int32 ⊕ String) × Mem) :=
    if (σ 0 8) = 0 then (some (.inr "java/lang/IllegalStateException", σ))
    else (bv (fX4_copyFrom 1 9 σ) fun σ4 =>
    bv (fX1_forget σ4) fun σ5 =>
    bv (fX9_beginSearch σ5) fun σ6 =>
    some (.inl (σ6 1 7), σ6))
def fX10_thrown  (σ : Mem) : Option (Int32 × Mem) :=
    some (σ 124 0, σ)
def fX10_fails  (σ : Mem) (a1 : Int32) : Option (Int32 × Mem) :=
    lt (mst σ 124 0 a1) fun σ2 =>
    some ((0 : Int32), σ2)
def fX10_isBetween_L14    (σ : Mem) : Option (Int32 × Mem) :=
    some ((0 : Int32), σ)
def fX10_isBetween  (σ : Mem) (a0 a1 a2 : Int32) : Option (Int32 × Mem) :=
    if a0 < a1 then (fX10_isBetween_L14  σ)
    else (if a2 < a0 then (fX10_isBetween_L14  σ)
    else (some ((1 : Int32), σ)))
def fX10_has  (σ : Mem) (a0 a1 : Int32) : Option (Int32 × Mem) :=
    if ((a0 >>> (a1 &&& 31)) &&& (1 : Int32)) = (1 : Int32) then (some ((1 : Int32), σ))
    else (some ((0 : Int32), σ))
def fX10_isVariable_L16    (σ : Mem) : Option (Int32 × Mem) :=
    some ((0 : Int32), σ)
def fX10_isVariable  (σ : Mem) (a1 : Int32) : Option (Int32 × Mem) :=
    if a1 < 0 then (fX10_isVariable_L16  σ)
    else (if (σ 124 7) ≤ a1 then (fX10_isVariable_L16  σ)
    else (some ((1 : Int32), σ)))
def fX10_isConstraint_L16    (σ : Mem) : Option (Int32 × Mem) :=
    some ((0 : Int32), σ)
def fX10_isConstraint  (σ : Mem) (a1 : Int32) : Option (Int32 × Mem) :=
    if a1 < 0 then (fX10_isConstraint_L16  σ)
    else (if (σ 124 8) ≤ a1 then (fX10_isConstraint_L16  σ)
    else (some ((1 : Int32), σ)))
def fX10_membersOf_B4   (r4 : Mem → Int32 → Int32 → Int32 → Option (Int32 × Mem)) (σ : Mem) (l0 l1 l2 : Int32) : Option (Int32 × Mem) :=
    if (10 : Int32) ≤ l2 then (some (l1, σ))
    else (li (l1 + ((l0 >>> (l2 &&& 31)) &&& (1 : Int32))) fun x2 =>
    r4 σ l0 x2 (l2 + (1 : Int32)))
def fX10_membersOf_L4   (n : Nat) : Mem → Int32 → Int32 → Int32 → Option (Int32 × Mem) := fx (fX10_membersOf_B4 ) (fun _ _ _ _ => none) n
def fX10_membersOf  (σ : Mem) (a0 : Int32) : Option (Int32 × Mem) :=
    fX10_membersOf_L4  FU σ a0 (0 : Int32) (0 : Int32)
def fX10_pairsAlike_L77 (q2 : Nat) (r26 : Mem → Int32 → Int32 → Int32 → Option (Int32 × Mem))  (σ : Mem) (l1 l3 l4 : Int32) : Option (Int32 × Mem) :=
    r26 σ l1 l3 (l4 + (1 : Int32))
def fX10_pairsAlike_B26 (q2 : Nat)  (r26 : Mem → Int32 → Int32 → Int32 → Option (Int32 × Mem)) (σ : Mem) (l1 l3 l4 : Int32) : Option (Int32 × Mem) :=
    if (σ 124 7) ≤ l4 then (some (l3, σ))
    else (ck l1 20 (bd (fX10_has σ (σ 128 l1.toNatClampNeg) l4) fun v5 σ5 =>
    if v5 = 0 then (fX10_pairsAlike_L77 q2 r26 σ5 l1 l3 l4)
    else (ck l4 10 (ck (σ5 q2 l4.toNatClampNeg) 8 (li (l3 + (σ5 131 (σ5 q2 l4.toNatClampNeg).toNatClampNeg)) fun x6 =>
    ck l4 10 (ck (σ5 q2 l4.toNatClampNeg) 8 (ck (σ5 q2 l4.toNatClampNeg) 8 (lt (mst σ5 131 (σ5 q2 l4.toNatClampNeg).toNatClampNeg ((σ5 131 (σ5 q2 l4.toNatClampNeg).toNatClampNeg) + (1 : Int32))) fun σ7 =>
    fX10_pairsAlike_L77 q2 r26 σ7 l1 x6 l4))))))))
def fX10_pairsAlike_L26 (q2 : Nat)  (n : Nat) : Mem → Int32 → Int32 → Int32 → Option (Int32 × Mem) := fx (fX10_pairsAlike_B26 q2) (fun _ _ _ _ => none) n
def fX10_pairsAlike_B2 (q2 : Nat)  (r2 : Mem → Int32 → Int32 → Option (Int32 × Mem)) (σ : Mem) (l1 l3 : Int32) : Option (Int32 × Mem) :=
    if (8 : Int32) ≤ l3 then (fX10_pairsAlike_L26 q2 FU σ l1 (0 : Int32) (0 : Int32))
    else (ck l3 8 (lt (mst σ 131 l3.toNatClampNeg (0 : Int32)) fun σ8 =>
    r2 σ8 l1 (l3 + (1 : Int32))))
def fX10_pairsAlike_L2 (q2 : Nat)  (n : Nat) : Mem → Int32 → Int32 → Option (Int32 × Mem) := fx (fX10_pairsAlike_B2 q2) (fun _ _ _ => none) n
def fX10_pairsAlike (q2 : Nat) (σ : Mem) (a1 : Int32) : Option (Int32 × Mem) :=
    fX10_pairsAlike_L2 q2 FU σ a1 (0 : Int32)
def fX10_pairsNear_L111 (q2 : Nat) (r5 : Mem → Int32 → Int32 → Int32 → Option (Int32 × Mem))  (σ : Mem) (l1 l3 l4 : Int32) : Option (Int32 × Mem) :=
    r5 σ l1 l3 (l4 + (1 : Int32))
def fX10_pairsNear_L103 (q2 : Nat) (r5 : Mem → Int32 → Int32 → Int32 → Option (Int32 × Mem)) (r17 : Mem → Int32 → Int32 → Int32 → Int32 → Option (Int32 × Mem))  (σ : Mem) (l1 l4 l5 s0 s1 : Int32) : Option (Int32 × Mem) :=
    r17 σ l1 (s0 + s1) l4 (l5 + (1 : Int32))
def fX10_pairsNear_L102 (q2 : Nat) (r5 : Mem → Int32 → Int32 → Int32 → Option (Int32 × Mem)) (r17 : Mem → Int32 → Int32 → Int32 → Int32 → Option (Int32 × Mem))  (σ : Mem) (l1 l4 l5 s0 : Int32) : Option (Int32 × Mem) :=
    fX10_pairsNear_L103 q2 r5 r17 σ l1 l4 l5 s0 (0 : Int32)
def fX10_pairsNear_L70 (q2 : Nat) (r5 : Mem → Int32 → Int32 → Int32 → Option (Int32 × Mem)) (r17 : Mem → Int32 → Int32 → Int32 → Int32 → Option (Int32 × Mem))  (σ : Mem) (l1 l3 l4 l5 s0 : Int32) : Option (Int32 × Mem) :=
    ck l1 20 (bd (fX10_has σ (σ 128 l1.toNatClampNeg) l5) fun v3 σ3 =>
    if v3 = 0 then (fX10_pairsNear_L102 q2 r5 r17 σ3 l1 l4 l5 l3)
    else (ck l1 20 (if (σ3 129 l1.toNatClampNeg) ≤ s0 then (fX10_pairsNear_L102 q2 r5 r17 σ3 l1 l4 l5 l3)
    else (fX10_pairsNear_L103 q2 r5 r17 σ3 l1 l4 l5 l3 (1 : Int32)))))
def fX10_pairsNear_B17 (q2 : Nat) (r5 : Mem → Int32 → Int32 → Int32 → Option (Int32 × Mem)) (r17 : Mem → Int32 → Int32 → Int32 → Int32 → Option (Int32 × Mem)) (σ : Mem) (l1 l3 l4 l5 : Int32) : Option (Int32 × Mem) :=
    if l4 ≤ l5 then (fX10_pairsNear_L111 q2 r5 σ l1 l3 l4)
    else (ck l1 20 (bd (fX10_has σ (σ 128 l1.toNatClampNeg) l4) fun v4 σ4 =>
    if v4 = 0 then (fX10_pairsNear_L111 q2 r5 σ4 l1 l3 l4)
    else (ck l4 10 (ck l5 10 (if (σ4 q2 l5.toNatClampNeg) ≤ (σ4 q2 l4.toNatClampNeg) then (ck l4 10 (ck l5 10 (fX10_pairsNear_L70 q2 r5 r17 σ4 l1 l3 l4 l5 ((σ4 q2 l4.toNatClampNeg) - (σ4 q2 l5.toNatClampNeg)))))
    else (ck l5 10 (ck l4 10 (fX10_pairsNear_L70 q2 r5 r17 σ4 l1 l3 l4 l5 ((σ4 q2 l5.toNatClampNeg) - (σ4 q2 l4.toNatClampNeg))))))))))
def fX10_pairsNear_L17 (q2 : Nat) (r5 : Mem → Int32 → Int32 → Int32 → Option (Int32 × Mem)) (n : Nat) : Mem → Int32 → Int32 → Int32 → Int32 → Option (Int32 × Mem) := fx (fX10_pairsNear_B17 q2 r5) (fun _ _ _ _ _ => none) n
def fX10_pairsNear_B5 (q2 : Nat)  (r5 : Mem → Int32 → Int32 → Int32 → Option (Int32 × Mem)) (σ : Mem) (l1 l3 l4 : Int32) : Option (Int32 × Mem) :=
    if (σ 124 7) ≤ l4 then (some (l3, σ))
    else (fX10_pairsNear_L17 q2 r5 FU σ l1 l3 l4 (0 : Int32))
def fX10_pairsNear_L5 (q2 : Nat)  (n : Nat) : Mem → Int32 → Int32 → Int32 → Option (Int32 × Mem) := fx (fX10_pairsNear_B5 q2) (fun _ _ _ _ => none) n
def fX10_pairsNear (q2 : Nat) (σ : Mem) (a1 : Int32) : Option (Int32 × Mem) :=
    fX10_pairsNear_L5 q2 FU σ a1 (0 : Int32) (0 : Int32)
def fX10_notAscending_L69 (q2 : Nat) (r8 : Mem → Int32 → Int32 → Int32 → Int32 → Option (Int32 × Mem))  (σ : Mem) (l1 l3 l4 l5 : Int32) : Option (Int32 × Mem) :=
    r8 σ l1 l3 l4 (l5 + (1 : Int32))
def fX10_notAscending_L63 (q2 : Nat) (r8 : Mem → Int32 → Int32 → Int32 → Int32 → Option (Int32 × Mem))  (σ : Mem) (l1 l5 s0 s1 : Int32) : Option (Int32 × Mem) :=
    fX10_notAscending_L69 q2 r8 σ l1 (s0 + s1) l5 l5
def fX10_notAscending_L62 (q2 : Nat) (r8 : Mem → Int32 → Int32 → Int32 → Int32 → Option (Int32 × Mem))  (σ : Mem) (l1 l5 s0 : Int32) : Option (Int32 × Mem) :=
    fX10_notAscending_L63 q2 r8 σ l1 l5 s0 (0 : Int32)
def fX10_notAscending_B8 (q2 : Nat)  (r8 : Mem → Int32 → Int32 → Int32 → Int32 → Option (Int32 × Mem)) (σ : Mem) (l1 l3 l4 l5 : Int32) : Option (Int32 × Mem) :=
    if (σ 124 7) ≤ l5 then (some (l3, σ))
    else (ck l1 20 (bd (fX10_has σ (σ 128 l1.toNatClampNeg) l5) fun v2 σ2 =>
    if v2 = 0 then (fX10_notAscending_L69 q2 r8 σ2 l1 l3 l4 l5)
    else (if l4 < 0 then (fX10_notAscending_L62 q2 r8 σ2 l1 l5 l3)
    else (ck l5 10 (ck l1 20 (ck l4 10 (if ((σ2 129 l1.toNatClampNeg) + (σ2 q2 l4.toNatClampNeg)) ≤ (σ2 q2 l5.toNatClampNeg) then (fX10_notAscending_L62 q2 r8 σ2 l1 l5 l3)
    else (fX10_notAscending_L63 q2 r8 σ2 l1 l5 l3 (1 : Int32)))))))))
def fX10_notAscending_L8 (q2 : Nat)  (n : Nat) : Mem → Int32 → Int32 → Int32 → Int32 → Option (Int32 × Mem) := fx (fX10_notAscending_B8 q2) (fun _ _ _ _ _ => none) n
def fX10_notAscending (q2 : Nat) (σ : Mem) (a1 : Int32) : Option (Int32 × Mem) :=
    fX10_notAscending_L8 q2 FU σ a1 (0 : Int32) (-1 : Int32) (0 : Int32)
def fX10_sumOf_L58 (q2 : Nat) (r6 : Mem → Int32 → Int32 → Int32 → Int32 → Option (Int32 × Mem))  (σ : Mem) (l1 l3 l5 s0 s1 : Int32) : Option (Int32 × Mem) :=
    r6 σ l1 l3 (s0 + s1) (l5 + (1 : Int32))
def fX10_sumOf_B6 (q2 : Nat)  (r6 : Mem → Int32 → Int32 → Int32 → Int32 → Option (Int32 × Mem)) (σ : Mem) (l1 l3 l4 l5 : Int32) : Option (Int32 × Mem) :=
    if (σ 124 7) ≤ l5 then (some (l4, σ))
    else (ck l1 20 (bd (fX10_has σ (σ 128 l1.toNatClampNeg) l5) fun v2 σ2 =>
    if v2 = 0 then (fX10_sumOf_L58 q2 r6 σ2 l1 l3 l5 l4 (0 : Int32))
    else (if l3 = 0 then (ck l5 10 (fX10_sumOf_L58 q2 r6 σ2 l1 l3 l5 l4 (σ2 q2 l5.toNatClampNeg)))
    else (ck l5 10 (if (σ2 q2 l5.toNatClampNeg) = 0 then (fX10_sumOf_L58 q2 r6 σ2 l1 l3 l5 l4 (1 : Int32))
    else (fX10_sumOf_L58 q2 r6 σ2 l1 l3 l5 l4 (0 : Int32)))))))
def fX10_sumOf_L6 (q2 : Nat)  (n : Nat) : Mem → Int32 → Int32 → Int32 → Int32 → Option (Int32 × Mem) := fx (fX10_sumOf_B6 q2) (fun _ _ _ _ _ => none) n
def fX10_sumOf (q2 : Nat) (σ : Mem) (a1 a3 : Int32) : Option (Int32 × Mem) :=
    fX10_sumOf_L6 q2 FU σ a1 a3 (0 : Int32) (0 : Int32)
def fX10_violationOf (q2 : Nat) (σ : Mem) (a1 : Int32) : Option (Int32 × Mem) :=
    ck a1 20 (if (σ 127 a1.toNatClampNeg) = (0 : Int32) then (bd (fX10_pairsAlike q2 σ a1) fun v10 σ10 =>
    some (v10, σ10))
    else (if (σ 127 a1.toNatClampNeg) = (1 : Int32) then (bd (fX10_sumOf q2 σ a1 (0 : Int32)) fun v11 σ11 =>
    ck a1 20 (li (v11 - (σ11 129 a1.toNatClampNeg)) fun x12 =>
    if 0 ≤ x12 then (some (x12, σ11))
    else (some ((0 : Int32), σ11))))
    else (if (σ 127 a1.toNatClampNeg) = (2 : Int32) then (bd (fX10_sumOf q2 σ a1 (0 : Int32)) fun v13 σ13 =>
    ck a1 20 (li (v13 - (σ13 129 a1.toNatClampNeg)) fun x14 =>
    if 0 ≤ x14 then (some (x14, σ13))
    else (some (-x14, σ13))))
    else (if (σ 127 a1.toNatClampNeg) = (3 : Int32) then (bd (fX10_notAscending q2 σ a1) fun v15 σ15 =>
    some (v15, σ15))
    else (if (σ 127 a1.toNatClampNeg) = (4 : Int32) then (bd (fX10_sumOf q2 σ a1 (1 : Int32)) fun v16 σ16 =>
    ck a1 20 (li (v16 - (σ16 129 a1.toNatClampNeg)) fun x17 =>
    if 0 ≤ x17 then (some (x17, σ16))
    else (some (-x17, σ16))))
    else (bd (fX10_pairsNear q2 σ a1) fun v18 σ18 =>
    some (v18, σ18)))))))
def fX10_costOf_B4 (q1 : Nat)  (r4 : Mem → Int32 → Int32 → Option (Int32 × Mem)) (σ : Mem) (l2 l3 : Int32) : Option (Int32 × Mem) :=
    if (σ 124 8) ≤ l3 then (some (l2, σ))
    else (ck l3 20 (bd (fX10_violationOf q1 σ l3) fun v3 σ3 =>
    li (l2 + ((σ 130 l3.toNatClampNeg) * v3)) fun x4 =>
    r4 σ3 x4 (l3 + (1 : Int32))))
def fX10_costOf_L4 (q1 : Nat)  (n : Nat) : Mem → Int32 → Int32 → Option (Int32 × Mem) := fx (fX10_costOf_B4 q1) (fun _ _ _ => none) n
def fX10_costOf (q1 : Nat) (σ : Mem) : Option (Int32 × Mem) :=
    fX10_costOf_L4 q1 FU σ (0 : Int32) (0 : Int32)
def fX10_conflictOf_L46  (r4 : Mem → Int32 → Int32 → Int32 → Option (Int32 × Mem))  (σ : Mem) (l1 l3 s0 s1 : Int32) : Option (Int32 × Mem) :=
    r4 σ l1 (s0 + s1) (l3 + (1 : Int32))
def fX10_conflictOf_B4   (r4 : Mem → Int32 → Int32 → Int32 → Option (Int32 × Mem)) (σ : Mem) (l1 l2 l3 : Int32) : Option (Int32 × Mem) :=
    if (σ 124 8) ≤ l3 then (some (l2, σ))
    else (ck l3 20 (bd (fX10_has σ (σ 128 l3.toNatClampNeg) l1) fun v3 σ3 =>
    if v3 = 0 then (fX10_conflictOf_L46 r4 σ3 l1 l3 l2 (0 : Int32))
    else (ck l3 20 (bd (fX10_violationOf 126 σ3 l3) fun v4 σ4 =>
    fX10_conflictOf_L46 r4 σ4 l1 l3 l2 ((σ3 130 l3.toNatClampNeg) * v4)))))
def fX10_conflictOf_L4   (n : Nat) : Mem → Int32 → Int32 → Int32 → Option (Int32 × Mem) := fx (fX10_conflictOf_B4 ) (fun _ _ _ _ => none) n
def fX10_conflictOf  (σ : Mem) (a1 : Int32) : Option (Int32 × Mem) :=
    fX10_conflictOf_L4  FU σ a1 (0 : Int32) (0 : Int32)
def fX10_allowsAll_B2   (r2 : Mem → Int32 → Option (Mem)) (σ : Mem) (l1 : Int32) : Option (Mem) :=
    if (80 : Int32) ≤ l1 then (some σ)
    else (ck l1 80 (lt (mst σ 133 l1.toNatClampNeg (-1 : Int32)) fun σ2 =>
    r2 σ2 (l1 + (1 : Int32))))
def fX10_allowsAll_L2   (n : Nat) : Mem → Int32 → Option (Mem) := fx (fX10_allowsAll_B2 ) (fun _ _ => none) n
def fX10_allowsAll  (σ : Mem) : Option (Mem) :=
    fX10_allowsAll_L2  FU σ (0 : Int32)
def fX10_keepsBest_B2   (r2 : Mem → Int32 → Option (Mem)) (σ : Mem) (l1 : Int32) : Option (Mem) :=
    if (10 : Int32) ≤ l1 then (lt (mst σ 124 14 (σ 124 13)) fun σ4 =>
    lt (mst σ4 124 18 (σ4 124 15)) fun σ5 =>
    some σ5)
    else (ck l1 10 (ck l1 10 (lt (mst σ 132 l1.toNatClampNeg (σ 126 l1.toNatClampNeg)) fun σ6 =>
    r2 σ6 (l1 + (1 : Int32)))))
def fX10_keepsBest_L2   (n : Nat) : Mem → Int32 → Option (Mem) := fx (fX10_keepsBest_B2 ) (fun _ _ => none) n
def fX10_keepsBest  (σ : Mem) : Option (Mem) :=
    fX10_keepsBest_L2  FU σ (0 : Int32)
def fX10_counts  (σ : Mem) : Option (Mem) :=
    bd (fX10_costOf 126 σ) fun v4 σ4 =>
    lt (mst σ4 124 13 v4) fun σ5 =>
    if (σ5 124 14) ≤ (σ5 124 13) then (some σ5)
    else (bv (fX10_keepsBest σ5) fun σ6 =>
    some σ6)
def fX10_begins  (σ : Mem) : Option (Mem) :=
    lt (mst σ 124 15 (0 : Int32)) fun σ9 =>
    lt (mst σ9 124 16 (0 : Int32)) fun σ10 =>
    lt (mst σ10 124 17 (0 : Int32)) fun σ11 =>
    lt (mst σ11 124 19 (0 : Int32)) fun σ12 =>
    bv (fX10_allowsAll σ12) fun σ13 =>
    bd (fX10_costOf 126 σ13) fun v14 σ14 =>
    lt (mst σ14 124 13 v14) fun σ15 =>
    bv (fX10_keepsBest σ15) fun σ16 =>
    some σ16
def fX10_hands_L36 (q1 nn1 : Nat) (q2 nn2 : Nat) (r2 : Mem → Int32 → Option (Mem))  (σ : Mem) (l3 : Int32) : Option (Mem) :=
    lt (mst σ 124 29 ((σ 124 29) + (1 : Int32))) fun σ4 =>
    r2 σ4 (l3 + (1 : Int32))
def fX10_hands_B2 (q1 nn1 : Nat) (q2 nn2 : Nat)  (r2 : Mem → Int32 → Option (Mem)) (σ : Mem) (l3 : Int32) : Option (Mem) :=
    if (Int32.ofNat nn1) ≤ l3 then (some σ)
    else (if (σ 124 31) = 0 then (ck (σ 124 29) nn2 (ck l3 nn1 (lt (mst σ q1 l3.toNatClampNeg (σ q2 (σ 124 29).toNatClampNeg)) fun σ5 =>
    fX10_hands_L36 q1 nn1 q2 nn2 r2 σ5 l3)))
    else (ck l3 nn1 (ck (σ 124 29) nn2 (lt (mst σ q2 (σ 124 29).toNatClampNeg (σ q1 l3.toNatClampNeg)) fun σ6 =>
    fX10_hands_L36 q1 nn1 q2 nn2 r2 σ6 l3))))
def fX10_hands_L2 (q1 nn1 : Nat) (q2 nn2 : Nat)  (n : Nat) : Mem → Int32 → Option (Mem) := fx (fX10_hands_B2 q1 nn1 q2 nn2) (fun _ _ => none) n
def fX10_hands (q1 nn1 : Nat) (q2 nn2 : Nat) (σ : Mem) : Option (Mem) :=
    fX10_hands_L2 q1 nn1 q2 nn2 FU σ (0 : Int32)
def fX10_handsAll (q1 nn1 : Nat) (σ : Mem) (a2 a3 : Int32) : Option (Mem) :=
    ckz a3 (lt (mst σ 124 31 a3) fun σ13 =>
    lt (mst σ13 124 29 a2) fun σ14 =>
    bv (fX10_hands 125 10 q1 nn1 σ14) fun σ15 =>
    bv (fX10_hands 126 10 q1 nn1 σ15) fun σ16 =>
    bv (fX10_hands 127 20 q1 nn1 σ16) fun σ17 =>
    bv (fX10_hands 128 20 q1 nn1 σ17) fun σ18 =>
    bv (fX10_hands 129 20 q1 nn1 σ18) fun σ19 =>
    bv (fX10_hands 130 20 q1 nn1 σ19) fun σ20 =>
    if a3 = 0 then (ck (σ20 124 29) nn1 (lt (mst σ20 124 7 (σ20 q1 (σ20 124 29).toNatClampNeg)) fun σ21 =>
    ck ((σ21 124 29) + (1 : Int32)) nn1 (lt (mst σ21 124 8 (σ21 q1 ((σ21 124 29) + (1 : Int32)).toNatClampNeg)) fun σ22 =>
    some σ22)))
    else (ck (σ20 124 29) nn1 (lt (mst σ20 q1 (σ20 124 29).toNatClampNeg (σ20 124 7)) fun σ23 =>
    ck ((σ23 124 29) + (1 : Int32)) nn1 (lt (mst σ23 q1 ((σ23 124 29) + (1 : Int32)).toNatClampNeg (σ23 124 8)) fun σ24 =>
    some σ24))))
def fX10_remembers_L49    (σ : Mem) : Option (Mem) :=
    bv (fX10_handsAll 135 832 σ ((104 : Int32) * (σ 124 28)) (1 : Int32)) fun σ5 =>
    lt (mst σ5 124 28 ((σ5 124 28) + (1 : Int32))) fun σ6 =>
    some σ6
def fX10_remembers_B11   (r11 : Mem → Int32 → Option (Mem)) (σ : Mem) (l1 : Int32) : Option (Mem) :=
    if (728 : Int32) ≤ l1 then (lt (mst σ 124 28 ((σ 124 28) - (1 : Int32))) fun σ7 =>
    fX10_remembers_L49  σ7)
    else (ck (l1 + (104 : Int32)) 832 (ck l1 832 (lt (mst σ 135 l1.toNatClampNeg (σ 135 (l1 + (104 : Int32)).toNatClampNeg)) fun σ8 =>
    r11 σ8 (l1 + (1 : Int32)))))
def fX10_remembers_L11   (n : Nat) : Mem → Int32 → Option (Mem) := fx (fX10_remembers_B11 ) (fun _ _ => none) n
def fX10_remembers  (σ : Mem) : Option (Mem) :=
    if (σ 124 28) = (8 : Int32) then (fX10_remembers_L11  FU σ (0 : Int32))
    else (fX10_remembers_L49  σ)
def fX10_clear  (σ : Mem) : Option (Int32 × Mem) :=
    lt (mst σ 124 0 (0 : Int32)) fun σ10 =>
    lt (mst σ10 124 7 (0 : Int32)) fun σ11 =>
    lt (mst σ11 124 8 (0 : Int32)) fun σ12 =>
    lt (mst σ12 124 20 (15 : Int32)) fun σ13 =>
    lt (mst σ13 124 21 (3 : Int32)) fun σ14 =>
    lt (mst σ14 124 22 (20 : Int32)) fun σ15 =>
    lt (mst σ15 124 23 (1 : Int32)) fun σ16 =>
    lt (mst σ16 124 28 (0 : Int32)) fun σ17 =>
    bv (fX10_begins σ17) fun σ18 =>
    some (σ10 124 7, σ18)
def fX10_comesVariable  (σ : Mem) (a1 : Int32) : Option (Mem) :=
    ck (σ 124 7) 10 (lt (mst σ 125 (σ 124 7).toNatClampNeg a1) fun σ4 =>
    ck (σ4 124 7) 10 (lt (mst σ4 126 (σ4 124 7).toNatClampNeg (0 : Int32)) fun σ5 =>
    lt (mst σ5 124 7 ((σ5 124 7) + (1 : Int32))) fun σ6 =>
    some σ6))
def fX10_addVariable  (σ : Mem) (a1 : Int32) : Option (Int32 × Mem) :=
    bd (fX10_isBetween σ a1 (2 : Int32) (8 : Int32)) fun v8 σ8 =>
    if v8 = 0 then (bd (fX10_fails σ8 (1 : Int32)) fun v14 σ14 =>
    some (v14, σ14))
    else (if (σ8 124 7) = (10 : Int32) then (bd (fX10_fails σ8 (2 : Int32)) fun v13 σ13 =>
    some (v13, σ13))
    else (lt (mst σ8 124 0 (0 : Int32)) fun σ9 =>
    bv (fX10_remembers σ9) fun σ10 =>
    bv (fX10_comesVariable σ10 a1) fun σ11 =>
    bv (fX10_begins σ11) fun σ12 =>
    some ((σ12 124 7) - (1 : Int32), σ12)))
def fX10_setDomain_L80    (σ : Mem) (l3 s1 s2 : Int32) : Option (Int32 × Mem) :=
    ck s1 10 (lt (mst σ 126 s1.toNatClampNeg s2) fun σ10 =>
    bv (fX10_begins σ10) fun σ11 =>
    some (l3, σ11))
def fX10_setDomain  (σ : Mem) (a1 a2 : Int32) : Option (Int32 × Mem) :=
    bd (fX10_isVariable σ a1) fun v12 σ12 =>
    if v12 = 0 then (bd (fX10_fails σ12 (1 : Int32)) fun v18 σ18 =>
    some (v18, σ18))
    else (bd (fX10_isBetween σ12 a2 (2 : Int32) (8 : Int32)) fun v13 σ13 =>
    if v13 = 0 then (bd (fX10_fails σ13 (2 : Int32)) fun v17 σ17 =>
    some (v17, σ17))
    else (lt (mst σ13 124 0 (0 : Int32)) fun σ14 =>
    bv (fX10_remembers σ14) fun σ15 =>
    ck a1 10 (ck a1 10 (lt (mst σ15 125 a1.toNatClampNeg a2) fun σ16 =>
    ck a1 10 (if a2 ≤ (σ16 126 a1.toNatClampNeg) then (fX10_setDomain_L80  σ16 (σ15 125 a1.toNatClampNeg) a1 (a2 - (1 : Int32)))
    else (ck a1 10 (fX10_setDomain_L80  σ16 (σ15 125 a1.toNatClampNeg) a1 (σ16 126 a1.toNatClampNeg))))))))
def fX10_comesConstraint  (σ : Mem) (a1 a2 a3 a4 : Int32) : Option (Mem) :=
    ck (σ 124 8) 20 (lt (mst σ 127 (σ 124 8).toNatClampNeg a1) fun σ6 =>
    ck (σ6 124 8) 20 (lt (mst σ6 128 (σ6 124 8).toNatClampNeg a2) fun σ7 =>
    ck (σ7 124 8) 20 (lt (mst σ7 129 (σ7 124 8).toNatClampNeg a3) fun σ8 =>
    ck (σ8 124 8) 20 (lt (mst σ8 130 (σ8 124 8).toNatClampNeg a4) fun σ9 =>
    lt (mst σ9 124 8 ((σ9 124 8) + (1 : Int32))) fun σ10 =>
    some σ10))))
def fX10_doExist_L17    (σ : Mem) : Option (Int32 × Mem) :=
    some ((0 : Int32), σ)
def fX10_doExist  (σ : Mem) (a1 : Int32) : Option (Int32 × Mem) :=
    if a1 < 0 then (fX10_doExist_L17  σ)
    else (if (a1 >>> ((σ 124 7) &&& 31)) = 0 then (some ((1 : Int32), σ))
    else (fX10_doExist_L17  σ))
def fX10_addConstraint_L47    (σ : Mem) : Option (Int32 × Mem) :=
    bd (fX10_fails σ (1 : Int32)) fun v12 σ12 =>
    some (v12, σ12)
def fX10_addConstraint  (σ : Mem) (a1 a2 a3 a4 : Int32) : Option (Int32 × Mem) :=
    bd (fX10_isBetween σ a1 (0 : Int32) (5 : Int32)) fun v13 σ13 =>
    if v13 = 0 then (fX10_addConstraint_L47  σ13)
    else (bd (fX10_isBetween σ13 a3 (-50 : Int32) (50 : Int32)) fun v14 σ14 =>
    if v14 = 0 then (fX10_addConstraint_L47  σ14)
    else (bd (fX10_isBetween σ14 a4 (1 : Int32) (9 : Int32)) fun v15 σ15 =>
    if v15 = 0 then (fX10_addConstraint_L47  σ15)
    else (bd (fX10_doExist σ15 a2) fun v16 σ16 =>
    if v16 = 0 then (fX10_addConstraint_L47  σ16)
    else (bd (fX10_membersOf σ16 a2) fun v17 σ17 =>
    if (2 : Int32) ≤ v17 then (if (σ17 124 8) = (20 : Int32) then (bd (fX10_fails σ17 (2 : Int32)) fun v22 σ22 =>
    some (v22, σ22))
    else (lt (mst σ17 124 0 (0 : Int32)) fun σ18 =>
    bv (fX10_remembers σ18) fun σ19 =>
    bv (fX10_comesConstraint σ19 a1 a2 a3 a4) fun σ20 =>
    bv (fX10_begins σ20) fun σ21 =>
    some ((σ21 124 8) - (1 : Int32), σ21)))
    else (fX10_addConstraint_L47  σ17)))))
def fX10_removeConstraint_B35   (r35 : Mem → Int32 → Option (Int32 × Mem)) (σ : Mem) (l2 : Int32) : Option (Int32 × Mem) :=
    if (σ 124 8) ≤ l2 then (bv (fX10_begins σ) fun σ11 =>
    some (σ11 124 8, σ11))
    else (ck (l2 + (1 : Int32)) 20 (ck l2 20 (lt (mst σ 127 l2.toNatClampNeg (σ 127 (l2 + (1 : Int32)).toNatClampNeg)) fun σ12 =>
    ck (l2 + (1 : Int32)) 20 (ck l2 20 (lt (mst σ12 128 l2.toNatClampNeg (σ12 128 (l2 + (1 : Int32)).toNatClampNeg)) fun σ13 =>
    ck (l2 + (1 : Int32)) 20 (ck l2 20 (lt (mst σ13 129 l2.toNatClampNeg (σ13 129 (l2 + (1 : Int32)).toNatClampNeg)) fun σ14 =>
    ck (l2 + (1 : Int32)) 20 (ck l2 20 (lt (mst σ14 130 l2.toNatClampNeg (σ14 130 (l2 + (1 : Int32)).toNatClampNeg)) fun σ15 =>
    r35 σ15 (l2 + (1 : Int32)))))))))))
def fX10_removeConstraint_L35   (n : Nat) : Mem → Int32 → Option (Int32 × Mem) := fx (fX10_removeConstraint_B35 ) (fun _ _ => none) n
def fX10_removeConstraint  (σ : Mem) (a1 : Int32) : Option (Int32 × Mem) :=
    bd (fX10_isConstraint σ a1) fun v16 σ16 =>
    if v16 = 0 then (bd (fX10_fails σ16 (1 : Int32)) fun v20 σ20 =>
    some (v20, σ20))
    else (lt (mst σ16 124 0 (0 : Int32)) fun σ17 =>
    bv (fX10_remembers σ17) fun σ18 =>
    lt (mst σ18 124 8 ((σ18 124 8) - (1 : Int32))) fun σ19 =>
    fX10_removeConstraint_L35  FU σ19 a1)
def fX10_setWeight  (σ : Mem) (a1 a2 : Int32) : Option (Int32 × Mem) :=
    bd (fX10_isConstraint σ a1) fun v9 σ9 =>
    if v9 = 0 then (bd (fX10_fails σ9 (1 : Int32)) fun v16 σ16 =>
    some (v16, σ16))
    else (bd (fX10_isBetween σ9 a2 (1 : Int32) (9 : Int32)) fun v10 σ10 =>
    if v10 = 0 then (bd (fX10_fails σ10 (2 : Int32)) fun v15 σ15 =>
    some (v15, σ15))
    else (lt (mst σ10 124 0 (0 : Int32)) fun σ11 =>
    bv (fX10_remembers σ11) fun σ12 =>
    ck a1 20 (ck a1 20 (lt (mst σ12 130 a1.toNatClampNeg a2) fun σ13 =>
    bv (fX10_begins σ13) fun σ14 =>
    some (σ12 130 a1.toNatClampNeg, σ14)))))
def fX10_isIn_L18    (σ : Mem) : Option (Int32 × Mem) :=
    some ((0 : Int32), σ)
def fX10_isIn  (σ : Mem) (a1 a2 : Int32) : Option (Int32 × Mem) :=
    if a2 < 0 then (fX10_isIn_L18  σ)
    else (ck a1 10 (if (σ 125 a1.toNatClampNeg) ≤ a2 then (fX10_isIn_L18  σ)
    else (some ((1 : Int32), σ))))
def fX10_setValue  (σ : Mem) (a1 a2 : Int32) : Option (Int32 × Mem) :=
    bd (fX10_isVariable σ a1) fun v8 σ8 =>
    if v8 = 0 then (bd (fX10_fails σ8 (1 : Int32)) fun v14 σ14 =>
    some (v14, σ14))
    else (bd (fX10_isIn σ8 a1 a2) fun v9 σ9 =>
    if v9 = 0 then (bd (fX10_fails σ9 (2 : Int32)) fun v13 σ13 =>
    some (v13, σ13))
    else (lt (mst σ9 124 0 (0 : Int32)) fun σ10 =>
    ck a1 10 (ck a1 10 (lt (mst σ10 126 a1.toNatClampNeg a2) fun σ11 =>
    bv (fX10_begins σ11) fun σ12 =>
    some (σ10 126 a1.toNatClampNeg, σ12)))))
def fX10_combinations_B4   (r4 : Mem → Int32 → Int32 → Option (Int32 × Mem)) (σ : Mem) (l1 l2 : Int32) : Option (Int32 × Mem) :=
    if (σ 124 7) ≤ l2 then (some (l1, σ))
    else (ck l2 10 (li (l1 * (σ 125 l2.toNatClampNeg)) fun x2 =>
    r4 σ x2 (l2 + (1 : Int32))))
def fX10_combinations_L4   (n : Nat) : Mem → Int32 → Int32 → Option (Int32 × Mem) := fx (fX10_combinations_B4 ) (fun _ _ _ => none) n
def fX10_combinations  (σ : Mem) : Option (Int32 × Mem) :=
    fX10_combinations_L4  FU σ (1 : Int32) (0 : Int32)
def fX10_count_L86  (r60 : Mem → Int32 → Int32 → Option (Int32 × Mem))  (σ : Mem) (l3 s0 s1 : Int32) : Option (Int32 × Mem) :=
    r60 σ (s0 + s1) (l3 + (1 : Int32))
def fX10_count_B60   (r60 : Mem → Int32 → Int32 → Option (Int32 × Mem)) (σ : Mem) (l2 l3 : Int32) : Option (Int32 × Mem) :=
    if (σ 124 8) ≤ l3 then (some (l2, σ))
    else (bd (fX10_violationOf 126 σ l3) fun v6 σ6 =>
    if v6 ≤ 0 then (fX10_count_L86 r60 σ6 l3 l2 (0 : Int32))
    else (fX10_count_L86 r60 σ6 l3 l2 (1 : Int32)))
def fX10_count_L60   (n : Nat) : Mem → Int32 → Int32 → Option (Int32 × Mem) := fx (fX10_count_B60 ) (fun _ _ _ => none) n
def fX10_count  (σ : Mem) (a1 : Int32) : Option (Int32 × Mem) :=
    bd (fX10_isBetween σ a1 (0 : Int32) (3 : Int32)) fun v7 σ7 =>
    if v7 = 0 then (bd (fX10_fails σ7 (1 : Int32)) fun v10 σ10 =>
    some (v10, σ10))
    else (lt (mst σ7 124 0 (0 : Int32)) fun σ8 =>
    if a1 = (0 : Int32) then (some (σ8 124 7, σ8))
    else (if a1 = (1 : Int32) then (some (σ8 124 8, σ8))
    else (if a1 = (2 : Int32) then (fX10_count_L60  FU σ8 (0 : Int32) (0 : Int32))
    else (bd (fX10_combinations σ8) fun v9 σ9 =>
    some (v9, σ9)))))
def fX10_constraint  (σ : Mem) (a1 a2 : Int32) : Option (Int32 × Mem) :=
    bd (fX10_isConstraint σ a1) fun v6 σ6 =>
    if v6 = 0 then (bd (fX10_fails σ6 (1 : Int32)) fun v10 σ10 =>
    some (v10, σ10))
    else (bd (fX10_isBetween σ6 a2 (0 : Int32) (3 : Int32)) fun v7 σ7 =>
    if v7 = 0 then (bd (fX10_fails σ7 (2 : Int32)) fun v9 σ9 =>
    some (v9, σ9))
    else (lt (mst σ7 124 0 (0 : Int32)) fun σ8 =>
    if a2 = 0 then (ck a1 20 (some (σ8 127 a1.toNatClampNeg, σ8)))
    else (if a2 = (1 : Int32) then (ck a1 20 (some (σ8 128 a1.toNatClampNeg, σ8)))
    else (if a2 = (2 : Int32) then (ck a1 20 (some (σ8 129 a1.toNatClampNeg, σ8)))
    else (ck a1 20 (some (σ8 130 a1.toNatClampNeg, σ8)))))))
def fX10_variable_L68  (r39 : Mem → Int32 → Int32 → Int32 → Int32 → Option (Int32 × Mem))  (σ : Mem) (l1 l2 l4 s0 s1 : Int32) : Option (Int32 × Mem) :=
    r39 σ l1 l2 (s0 + s1) (l4 + (1 : Int32))
def fX10_variable_B39   (r39 : Mem → Int32 → Int32 → Int32 → Int32 → Option (Int32 × Mem)) (σ : Mem) (l1 l2 l3 l4 : Int32) : Option (Int32 × Mem) :=
    if (σ 124 8) ≤ l4 then (if l2 = 0 then (ck l1 10 (some (σ 125 l1.toNatClampNeg, σ)))
    else (if l2 = (1 : Int32) then (ck l1 10 (some (σ 126 l1.toNatClampNeg, σ)))
    else (if l2 = (2 : Int32) then (ck l1 10 (some (σ 132 l1.toNatClampNeg, σ)))
    else (if l2 = (3 : Int32) then (bd (fX10_conflictOf σ l1) fun v8 σ8 =>
    some (v8, σ8))
    else (some (l3, σ))))))
    else (ck l4 20 (bd (fX10_has σ (σ 128 l4.toNatClampNeg) l1) fun v9 σ9 =>
    if v9 = 0 then (fX10_variable_L68 r39 σ9 l1 l2 l4 l3 (0 : Int32))
    else (fX10_variable_L68 r39 σ9 l1 l2 l4 l3 (1 : Int32))))
def fX10_variable_L39   (n : Nat) : Mem → Int32 → Int32 → Int32 → Int32 → Option (Int32 × Mem) := fx (fX10_variable_B39 ) (fun _ _ _ _ _ => none) n
def fX10_variable  (σ : Mem) (a1 a2 : Int32) : Option (Int32 × Mem) :=
    bd (fX10_isVariable σ a1) fun v10 σ10 =>
    if v10 = 0 then (bd (fX10_fails σ10 (1 : Int32)) fun v14 σ14 =>
    some (v14, σ14))
    else (bd (fX10_isBetween σ10 a2 (0 : Int32) (4 : Int32)) fun v11 σ11 =>
    if v11 = 0 then (bd (fX10_fails σ11 (2 : Int32)) fun v13 σ13 =>
    some (v13, σ13))
    else (lt (mst σ11 124 0 (0 : Int32)) fun σ12 =>
    fX10_variable_L39  FU σ12 a1 a2 (0 : Int32) (0 : Int32)))
def fX10_cost  (σ : Mem) : Option (Int32 × Mem) :=
    lt (mst σ 124 0 (0 : Int32)) fun σ2 =>
    some (σ2 124 13, σ2)
def fX10_bestCost  (σ : Mem) : Option (Int32 × Mem) :=
    lt (mst σ 124 0 (0 : Int32)) fun σ2 =>
    some (σ2 124 14, σ2)
def fX10_violation_L36   (p2 : Nat) (σ : Mem) (s1 : Int32) : Option (Int32 × Mem) :=
    bd (fX10_violationOf p2 σ s1) fun v6 σ6 =>
    some (v6, σ6)
def fX10_violation  (σ : Mem) (a1 a2 : Int32) : Option (Int32 × Mem) :=
    bd (fX10_isConstraint σ a1) fun v7 σ7 =>
    if v7 = 0 then (bd (fX10_fails σ7 (1 : Int32)) fun v9 σ9 =>
    some (v9, σ9))
    else (lt (mst σ7 124 0 (0 : Int32)) fun σ8 =>
    if a2 = 0 then (fX10_violation_L36  126 σ8 a1)
    else (fX10_violation_L36  132 σ8 a1))
def fX10_mostBlamed_L45  (r6 : Mem → Int32 → Int32 → Int32 → Option (Int32 × Mem))  (σ : Mem) (l1 l3 s0 : Int32) : Option (Int32 × Mem) :=
    r6 σ l1 s0 (l3 + (1 : Int32))
def fX10_mostBlamed_L32  (r6 : Mem → Int32 → Int32 → Int32 → Option (Int32 × Mem))  (σ : Mem) (l2 l3 l4 s0 : Int32) : Option (Int32 × Mem) :=
    if l4 ≤ l2 then (fX10_mostBlamed_L45 r6 σ s0 l3 l2)
    else (fX10_mostBlamed_L45 r6 σ s0 l3 l4)
def fX10_mostBlamed_B6   (r6 : Mem → Int32 → Int32 → Int32 → Option (Int32 × Mem)) (σ : Mem) (l1 l2 l3 : Int32) : Option (Int32 × Mem) :=
    if (σ 124 7) ≤ l3 then (if 0 ≤ l1 then (lt (mst σ 124 0 (0 : Int32)) fun σ4 =>
    some (l1, σ4))
    else (bd (fX10_fails σ (1 : Int32)) fun v5 σ5 =>
    some (v5, σ5)))
    else (bd (fX10_conflictOf σ l3) fun v6 σ6 =>
    if v6 ≤ l2 then (fX10_mostBlamed_L32 r6 σ6 l2 l3 v6 l1)
    else (fX10_mostBlamed_L32 r6 σ6 l2 l3 v6 l3))
def fX10_mostBlamed_L6   (n : Nat) : Mem → Int32 → Int32 → Int32 → Option (Int32 × Mem) := fx (fX10_mostBlamed_B6 ) (fun _ _ _ _ => none) n
def fX10_mostBlamed  (σ : Mem) : Option (Int32 × Mem) :=
    fX10_mostBlamed_L6  FU σ (-1 : Int32) (0 : Int32) (0 : Int32)
def fX10_relief_L83  (r32 : Mem → Int32 → Int32 → Int32 → Int32 → Option (Int32 × Mem))  (σ : Mem) (l1 l2 l3 l4 : Int32) : Option (Int32 × Mem) :=
    r32 σ l1 l2 l3 (l4 + (1 : Int32))
def fX10_relief_L82  (r32 : Mem → Int32 → Int32 → Int32 → Int32 → Option (Int32 × Mem))  (σ : Mem) (l1 l2 l4 s0 : Int32) : Option (Int32 × Mem) :=
    fX10_relief_L83 r32 σ l1 l2 s0 l4
def fX10_relief_B32   (r32 : Mem → Int32 → Int32 → Int32 → Int32 → Option (Int32 × Mem)) (σ : Mem) (l1 l2 l3 l4 : Int32) : Option (Int32 × Mem) :=
    ck l1 10 (if (σ 125 l1.toNatClampNeg) ≤ l4 then (ck l1 10 (lt (mst σ 126 l1.toNatClampNeg l2) fun σ7 =>
    some ((σ7 124 13) - l3, σ7)))
    else (if l4 = l2 then (fX10_relief_L83 r32 σ l1 l2 l3 l4)
    else (ck l1 10 (lt (mst σ 126 l1.toNatClampNeg l4) fun σ8 =>
    bd (fX10_costOf 126 σ8) fun v9 σ9 =>
    if l3 ≤ v9 then (fX10_relief_L82 r32 σ9 l1 l2 l4 l3)
    else (fX10_relief_L82 r32 σ9 l1 l2 l4 v9)))))
def fX10_relief_L32   (n : Nat) : Mem → Int32 → Int32 → Int32 → Int32 → Option (Int32 × Mem) := fx (fX10_relief_B32 ) (fun _ _ _ _ _ => none) n
def fX10_relief  (σ : Mem) (a1 : Int32) : Option (Int32 × Mem) :=
    bd (fX10_isVariable σ a1) fun v10 σ10 =>
    if v10 = 0 then (bd (fX10_fails σ10 (1 : Int32)) fun v12 σ12 =>
    some (v12, σ12))
    else (lt (mst σ10 124 0 (0 : Int32)) fun σ11 =>
    ck a1 10 (fX10_relief_L32  FU σ11 a1 (σ11 126 a1.toNatClampNeg) (2147483647 : Int32) (0 : Int32)))
def fX10_takeBest_B12   (r12 : Mem → Int32 → Int32 → Option (Int32 × Mem)) (σ : Mem) (l1 l2 : Int32) : Option (Int32 × Mem) :=
    if (10 : Int32) ≤ l2 then (lt (mst σ 124 13 (σ 124 14)) fun σ4 =>
    some (l1 - (σ4 124 13), σ4))
    else (ck l2 10 (ck l2 10 (lt (mst σ 126 l2.toNatClampNeg (σ 132 l2.toNatClampNeg)) fun σ5 =>
    r12 σ5 l1 (l2 + (1 : Int32)))))
def fX10_takeBest_L12   (n : Nat) : Mem → Int32 → Int32 → Option (Int32 × Mem) := fx (fX10_takeBest_B12 ) (fun _ _ _ => none) n
def fX10_takeBest  (σ : Mem) : Option (Int32 × Mem) :=
    lt (mst σ 124 0 (0 : Int32)) fun σ6 =>
    fX10_takeBest_L12  FU σ6 (σ6 124 13) (0 : Int32)
def fX10_findThen_L114    (σ : Mem) (l1 l2 l3 l4 : Int32) : Option (Mem) :=
    if l1 = (3 : Int32) then (ck l2 10 (ck l3 10 (lt (mst σ 144 l3.toNatClampNeg (σ 126 l2.toNatClampNeg)) fun σ9 =>
    ck l3 10 (ck l4 10 (lt (mst σ9 144 l4.toNatClampNeg (σ9 126 l3.toNatClampNeg)) fun σ10 =>
    ck l4 10 (ck l2 10 (lt (mst σ10 144 l2.toNatClampNeg (σ10 126 l4.toNatClampNeg)) fun σ11 =>
    some σ11)))))))
    else (some σ)
def fX10_findThen_L105    (σ : Mem) (l1 l2 l3 l4 s1 s2 s3 : Int32) : Option (Mem) :=
    ck l2 10 (ckn (σ 125 l2.toNatClampNeg) (ck s1 10 (lt (mst σ 144 s1.toNatClampNeg ((s2 + s3) - (s2 + s3) / (σ 125 l2.toNatClampNeg) * (σ 125 l2.toNatClampNeg))) fun σ12 =>
    fX10_findThen_L114  σ12 l1 l2 l3 l4)))
def fX10_findThen_L72    (σ : Mem) (l1 l2 l3 l4 : Int32) : Option (Mem) :=
    if l1 = (2 : Int32) then (ck l2 10 (if l3 = (1 : Int32) then (fX10_findThen_L105  σ l1 l2 l3 l4 l2 (σ 126 l2.toNatClampNeg) (1 : Int32))
    else (ck l2 10 (fX10_findThen_L105  σ l1 l2 l3 l4 l2 (σ 126 l2.toNatClampNeg) ((σ 125 l2.toNatClampNeg) - (1 : Int32))))))
    else (fX10_findThen_L114  σ l1 l2 l3 l4)
def fX10_findThen_L43    (σ : Mem) (l1 l2 l3 l4 : Int32) : Option (Mem) :=
    if l1 = (1 : Int32) then (ck l3 10 (ck l2 10 (lt (mst σ 144 l2.toNatClampNeg (σ 126 l3.toNatClampNeg)) fun σ13 =>
    ck l2 10 (ck l3 10 (lt (mst σ13 144 l3.toNatClampNeg (σ13 126 l2.toNatClampNeg)) fun σ14 =>
    fX10_findThen_L72  σ14 l1 l2 l3 l4)))))
    else (fX10_findThen_L72  σ l1 l2 l3 l4)
def fX10_findThen_B3   (r3 : Mem → Int32 → Int32 → Int32 → Int32 → Int32 → Option (Mem)) (σ : Mem) (l1 l2 l3 l4 l5 : Int32) : Option (Mem) :=
    if (σ 124 7) ≤ l5 then (if l1 = 0 then (ck l2 10 (lt (mst σ 144 l2.toNatClampNeg l3) fun σ15 =>
    fX10_findThen_L43  σ15 l1 l2 l3 l4))
    else (fX10_findThen_L43  σ l1 l2 l3 l4))
    else (ck l5 10 (ck l5 10 (lt (mst σ 144 l5.toNatClampNeg (σ 126 l5.toNatClampNeg)) fun σ16 =>
    r3 σ16 l1 l2 l3 l4 (l5 + (1 : Int32)))))
def fX10_findThen_L3   (n : Nat) : Mem → Int32 → Int32 → Int32 → Int32 → Int32 → Option (Mem) := fx (fX10_findThen_B3 ) (fun _ _ _ _ _ _ => none) n
def fX10_findThen  (σ : Mem) (a1 a2 a3 a4 : Int32) : Option (Mem) :=
    fX10_findThen_L3  FU σ a1 a2 a3 a4 (0 : Int32)
def fX10_isForbiddenNow  (σ : Mem) (a1 a2 : Int32) : Option (Int32 × Mem) :=
    ck (((8 : Int32) * a1) + a2) 80 (if (σ 133 (((8 : Int32) * a1) + a2).toNatClampNeg) < (σ 124 15) then (some ((0 : Int32), σ))
    else (some ((1 : Int32), σ)))
def fX10_lists_L167    (σ : Mem) (s1 s2 : Int32) : Option (Mem) :=
    ck s1 400 (lt (mst σ 145 s1.toNatClampNeg (vp_nar .boolean s2)) fun σ11 =>
    lt (mst σ11 124 39 ((σ11 124 39) + (1 : Int32))) fun σ12 =>
    some σ12)
def fX10_lists_L166    (σ : Mem) (s1 : Int32) : Option (Mem) :=
    fX10_lists_L167  σ s1 (0 : Int32)
def fX10_lists_L125  (r73 : Mem → Int32 → Int32 → Option (Mem))  (σ : Mem) (l6 s0 : Int32) : Option (Mem) :=
    r73 σ s0 (l6 + (1 : Int32))
def fX10_lists_L124  (r73 : Mem → Int32 → Int32 → Option (Mem))  (σ : Mem) (l6 : Int32) : Option (Mem) :=
    fX10_lists_L125 r73 σ l6 (0 : Int32)
def fX10_lists_L120  (r73 : Mem → Int32 → Int32 → Option (Mem))  (σ : Mem) (l6 : Int32) : Option (Mem) :=
    fX10_lists_L125 r73 σ l6 (1 : Int32)
def fX10_lists_B73   (r73 : Mem → Int32 → Int32 → Option (Mem)) (σ : Mem) (l5 l6 : Int32) : Option (Mem) :=
    if (σ 124 7) ≤ l6 then (if l5 = 0 then (fX10_lists_L166  σ (σ 124 39))
    else (ck (σ 124 39) 400 (if (σ 143 (σ 124 39).toNatClampNeg) < (σ 124 14) then (fX10_lists_L166  σ (σ 124 39))
    else (fX10_lists_L167  σ (σ 124 39) (1 : Int32)))))
    else (if l5 = 0 then (ck l6 10 (ck l6 10 (if (σ 144 l6.toNatClampNeg) = (σ 126 l6.toNatClampNeg) then (fX10_lists_L124 r73 σ l6)
    else (ck l6 10 (bd (fX10_isForbiddenNow σ l6 (σ 144 l6.toNatClampNeg)) fun v13 σ13 =>
    if v13 = 0 then (fX10_lists_L124 r73 σ13 l6)
    else (fX10_lists_L120 r73 σ13 l6))))))
    else (fX10_lists_L120 r73 σ l6))
def fX10_lists_L73   (n : Nat) : Mem → Int32 → Int32 → Option (Mem) := fx (fX10_lists_B73 ) (fun _ _ _ => none) n
def fX10_lists  (σ : Mem) (a1 a2 a3 a4 : Int32) : Option (Mem) :=
    bv (fX10_findThen σ a1 a2 a3 a4) fun σ14 =>
    ck (σ14 124 39) 400 (lt (mst σ14 139 (σ14 124 39).toNatClampNeg a1) fun σ15 =>
    ck (σ15 124 39) 400 (lt (mst σ15 140 (σ15 124 39).toNatClampNeg a2) fun σ16 =>
    ck (σ16 124 39) 400 (lt (mst σ16 141 (σ16 124 39).toNatClampNeg a3) fun σ17 =>
    ck (σ17 124 39) 400 (lt (mst σ17 142 (σ17 124 39).toNatClampNeg a4) fun σ18 =>
    bd (fX10_costOf 144 σ18) fun v19 σ19 =>
    ck (σ18 124 39) 400 (lt (mst σ19 143 (σ18 124 39).toNatClampNeg v19) fun σ20 =>
    fX10_lists_L73  FU σ20 (0 : Int32) (0 : Int32))))))
def fX10_listsSets_L30  (r2 : Mem → Int32 → Int32 → Option (Mem))  (σ : Mem) (l1 l2 : Int32) : Option (Mem) :=
    r2 σ l1 (l2 + (1 : Int32))
def fX10_listsSets_B2   (r2 : Mem → Int32 → Int32 → Option (Mem)) (σ : Mem) (l1 l2 : Int32) : Option (Mem) :=
    ck l1 10 (if (σ 125 l1.toNatClampNeg) ≤ l2 then (some σ)
    else (ck l1 10 (if l2 = (σ 126 l1.toNatClampNeg) then (fX10_listsSets_L30 r2 σ l1 l2)
    else (bv (fX10_lists σ (0 : Int32) l1 l2 (-1 : Int32)) fun σ2 =>
    fX10_listsSets_L30 r2 σ2 l1 l2))))
def fX10_listsSets_L2   (n : Nat) : Mem → Int32 → Int32 → Option (Mem) := fx (fX10_listsSets_B2 ) (fun _ _ _ => none) n
def fX10_listsSets  (σ : Mem) (a1 : Int32) : Option (Mem) :=
    fX10_listsSets_L2  FU σ a1 (0 : Int32)
def fX10_listsSwaps_L63  (r4 : Mem → Int32 → Int32 → Option (Mem))  (σ : Mem) (l1 l2 : Int32) : Option (Mem) :=
    r4 σ l1 (l2 + (1 : Int32))
def fX10_listsSwaps_B4   (r4 : Mem → Int32 → Int32 → Option (Mem)) (σ : Mem) (l1 l2 : Int32) : Option (Mem) :=
    if (σ 124 7) ≤ l2 then (some σ)
    else (ck l1 10 (ck l2 10 (if (σ 126 l1.toNatClampNeg) = (σ 126 l2.toNatClampNeg) then (fX10_listsSwaps_L63 r4 σ l1 l2)
    else (ck l2 10 (bd (fX10_isIn σ l1 (σ 126 l2.toNatClampNeg)) fun v4 σ4 =>
    if v4 = 0 then (fX10_listsSwaps_L63 r4 σ4 l1 l2)
    else (ck l1 10 (bd (fX10_isIn σ4 l2 (σ4 126 l1.toNatClampNeg)) fun v5 σ5 =>
    if v5 = 0 then (fX10_listsSwaps_L63 r4 σ5 l1 l2)
    else (bv (fX10_lists σ5 (1 : Int32) l1 l2 (-1 : Int32)) fun σ6 =>
    fX10_listsSwaps_L63 r4 σ6 l1 l2))))))))
def fX10_listsSwaps_L4   (n : Nat) : Mem → Int32 → Int32 → Option (Mem) := fx (fX10_listsSwaps_B4 ) (fun _ _ _ => none) n
def fX10_listsSwaps  (σ : Mem) (a1 : Int32) : Option (Mem) :=
    fX10_listsSwaps_L4  FU σ a1 (a1 + (1 : Int32))
def fX10_listsRotations_L112  (r4 : Mem → Int32 → Int32 → Option (Mem)) (r16 : Mem → Int32 → Int32 → Int32 → Option (Mem))  (σ : Mem) (l1 l2 l3 : Int32) : Option (Mem) :=
    r16 σ l1 l2 (l3 + (1 : Int32))
def fX10_listsRotations_L62  (r4 : Mem → Int32 → Int32 → Option (Mem)) (r16 : Mem → Int32 → Int32 → Int32 → Option (Mem))  (σ : Mem) (l1 l2 l3 : Int32) : Option (Mem) :=
    ck l1 10 (bd (fX10_isIn σ l2 (σ 126 l1.toNatClampNeg)) fun v5 σ5 =>
    if v5 = 0 then (fX10_listsRotations_L112 r4 r16 σ5 l1 l2 l3)
    else (ck l2 10 (bd (fX10_isIn σ5 l3 (σ5 126 l2.toNatClampNeg)) fun v6 σ6 =>
    if v6 = 0 then (fX10_listsRotations_L112 r4 r16 σ6 l1 l2 l3)
    else (ck l3 10 (bd (fX10_isIn σ6 l1 (σ6 126 l3.toNatClampNeg)) fun v7 σ7 =>
    if v7 = 0 then (fX10_listsRotations_L112 r4 r16 σ7 l1 l2 l3)
    else (bv (fX10_lists σ7 (3 : Int32) l1 l2 l3) fun σ8 =>
    fX10_listsRotations_L112 r4 r16 σ8 l1 l2 l3))))))
def fX10_listsRotations_B16  (r4 : Mem → Int32 → Int32 → Option (Mem)) (r16 : Mem → Int32 → Int32 → Int32 → Option (Mem)) (σ : Mem) (l1 l2 l3 : Int32) : Option (Mem) :=
    if (σ 124 7) ≤ l3 then (r4 σ l1 (l2 + (1 : Int32)))
    else (if l2 = l3 then (fX10_listsRotations_L112 r4 r16 σ l1 l2 l3)
    else (ck l1 10 (ck l2 10 (if (σ 126 l1.toNatClampNeg) = (σ 126 l2.toNatClampNeg) then (ck l2 10 (ck l3 10 (if (σ 126 l2.toNatClampNeg) = (σ 126 l3.toNatClampNeg) then (fX10_listsRotations_L112 r4 r16 σ l1 l2 l3)
    else (fX10_listsRotations_L62 r4 r16 σ l1 l2 l3))))
    else (fX10_listsRotations_L62 r4 r16 σ l1 l2 l3)))))
def fX10_listsRotations_L16  (r4 : Mem → Int32 → Int32 → Option (Mem)) (n : Nat) : Mem → Int32 → Int32 → Int32 → Option (Mem) := fx (fX10_listsRotations_B16 r4) (fun _ _ _ _ => none) n
def fX10_listsRotations_B4   (r4 : Mem → Int32 → Int32 → Option (Mem)) (σ : Mem) (l1 l2 : Int32) : Option (Mem) :=
    if (σ 124 7) ≤ l2 then (some σ)
    else (fX10_listsRotations_L16 r4 FU σ l1 l2 (l1 + (1 : Int32)))
def fX10_listsRotations_L4   (n : Nat) : Mem → Int32 → Int32 → Option (Mem) := fx (fX10_listsRotations_B4 ) (fun _ _ _ => none) n
def fX10_listsRotations  (σ : Mem) (a1 : Int32) : Option (Mem) :=
    fX10_listsRotations_L4  FU σ a1 (a1 + (1 : Int32))
def fX10_findMoves_B114   (r114 : Mem → Int32 → Option (Mem)) (σ : Mem) (l1 : Int32) : Option (Mem) :=
    if (σ 124 7) ≤ l1 then (some σ)
    else (bd (fX10_has σ (σ 124 20) (3 : Int32)) fun v11 σ11 =>
    if v11 = 0 then (some σ11)
    else (bv (fX10_listsRotations σ11 l1) fun σ12 =>
    r114 σ12 (l1 + (1 : Int32))))
def fX10_findMoves_L114   (n : Nat) : Mem → Int32 → Option (Mem) := fx (fX10_findMoves_B114 ) (fun _ _ => none) n
def fX10_findMoves_L112    (σ : Mem) : Option (Mem) :=
    fX10_findMoves_L114  FU σ (0 : Int32)
def fX10_findMoves_B71   (r71 : Mem → Int32 → Option (Mem)) (σ : Mem) (l1 : Int32) : Option (Mem) :=
    if (σ 124 7) ≤ l1 then (fX10_findMoves_L112  σ)
    else (bd (fX10_has σ (σ 124 20) (2 : Int32)) fun v13 σ13 =>
    if v13 = 0 then (fX10_findMoves_L112  σ13)
    else (bv (fX10_lists σ13 (2 : Int32) l1 (0 : Int32) (-1 : Int32)) fun σ14 =>
    bv (fX10_lists σ14 (2 : Int32) l1 (1 : Int32) (-1 : Int32)) fun σ15 =>
    r71 σ15 (l1 + (1 : Int32))))
def fX10_findMoves_L71   (n : Nat) : Mem → Int32 → Option (Mem) := fx (fX10_findMoves_B71 ) (fun _ _ => none) n
def fX10_findMoves_L69    (σ : Mem) : Option (Mem) :=
    fX10_findMoves_L71  FU σ (0 : Int32)
def fX10_findMoves_B39   (r39 : Mem → Int32 → Option (Mem)) (σ : Mem) (l1 : Int32) : Option (Mem) :=
    if (σ 124 7) ≤ l1 then (fX10_findMoves_L69  σ)
    else (bd (fX10_has σ (σ 124 20) (1 : Int32)) fun v16 σ16 =>
    if v16 = 0 then (fX10_findMoves_L69  σ16)
    else (bv (fX10_listsSwaps σ16 l1) fun σ17 =>
    r39 σ17 (l1 + (1 : Int32))))
def fX10_findMoves_L39   (n : Nat) : Mem → Int32 → Option (Mem) := fx (fX10_findMoves_B39 ) (fun _ _ => none) n
def fX10_findMoves_L37    (σ : Mem) : Option (Mem) :=
    fX10_findMoves_L39  FU σ (0 : Int32)
def fX10_findMoves_B7   (r7 : Mem → Int32 → Option (Mem)) (σ : Mem) (l1 : Int32) : Option (Mem) :=
    if (σ 124 7) ≤ l1 then (fX10_findMoves_L37  σ)
    else (bd (fX10_has σ (σ 124 20) (0 : Int32)) fun v18 σ18 =>
    if v18 = 0 then (fX10_findMoves_L37  σ18)
    else (bv (fX10_listsSets σ18 l1) fun σ19 =>
    r7 σ19 (l1 + (1 : Int32))))
def fX10_findMoves_L7   (n : Nat) : Mem → Int32 → Option (Mem) := fx (fX10_findMoves_B7 ) (fun _ _ => none) n
def fX10_findMoves  (σ : Mem) : Option (Mem) :=
    lt (mst σ 124 39 (0 : Int32)) fun σ20 =>
    fX10_findMoves_L7  FU σ20 (0 : Int32)
def fX10_setNeighborhood  (σ : Mem) (a1 : Int32) : Option (Int32 × Mem) :=
    bd (fX10_isBetween σ a1 (0 : Int32) (15 : Int32)) fun v5 σ5 =>
    if v5 = 0 then (bd (fX10_fails σ5 (1 : Int32)) fun v8 σ8 =>
    some (v8, σ8))
    else (lt (mst σ5 124 0 (0 : Int32)) fun σ6 =>
    lt (mst σ6 124 20 a1) fun σ7 =>
    some (σ6 124 20, σ7))
def fX10_setTenure  (σ : Mem) (a1 : Int32) : Option (Int32 × Mem) :=
    bd (fX10_isBetween σ a1 (0 : Int32) (20 : Int32)) fun v5 σ5 =>
    if v5 = 0 then (bd (fX10_fails σ5 (1 : Int32)) fun v8 σ8 =>
    some (v8, σ8))
    else (lt (mst σ5 124 0 (0 : Int32)) fun σ6 =>
    lt (mst σ6 124 21 a1) fun σ7 =>
    some (σ6 124 21, σ7))
def fX10_setPatience  (σ : Mem) (a1 : Int32) : Option (Int32 × Mem) :=
    bd (fX10_isBetween σ a1 (1 : Int32) (100 : Int32)) fun v5 σ5 =>
    if v5 = 0 then (bd (fX10_fails σ5 (1 : Int32)) fun v8 σ8 =>
    some (v8, σ8))
    else (lt (mst σ5 124 0 (0 : Int32)) fun σ6 =>
    lt (mst σ6 124 22 a1) fun σ7 =>
    some (σ6 124 22, σ7))
def fX10_setSeed  (σ : Mem) (a1 : Int32) : Option (Int32 × Mem) :=
    if 0 ≤ a1 then (lt (mst σ 124 0 (0 : Int32)) fun σ4 =>
    lt (mst σ4 124 23 a1) fun σ5 =>
    some (σ4 124 23, σ5))
    else (bd (fX10_fails σ (1 : Int32)) fun v6 σ6 =>
    some (v6, σ6))
def fX10_moves_L40  (r13 : Mem → Int32 → Int32 → Int32 → Option (Int32 × Mem))  (σ : Mem) (l1 l3 s0 s1 : Int32) : Option (Int32 × Mem) :=
    r13 σ l1 (s0 + s1) (l3 + (1 : Int32))
def fX10_moves_L35  (r13 : Mem → Int32 → Int32 → Int32 → Option (Int32 × Mem))  (σ : Mem) (l1 l3 s0 : Int32) : Option (Int32 × Mem) :=
    fX10_moves_L40 r13 σ l1 l3 s0 (1 : Int32)
def fX10_moves_B13   (r13 : Mem → Int32 → Int32 → Int32 → Option (Int32 × Mem)) (σ : Mem) (l1 l2 l3 : Int32) : Option (Int32 × Mem) :=
    if (σ 124 39) ≤ l3 then (some (l2, σ))
    else (if l1 = 0 then (fX10_moves_L35 r13 σ l1 l3 l2)
    else (ck l3 400 (if (σ 145 l3.toNatClampNeg) = 0 then (fX10_moves_L40 r13 σ l1 l3 l2 (0 : Int32))
    else (fX10_moves_L35 r13 σ l1 l3 l2))))
def fX10_moves_L13   (n : Nat) : Mem → Int32 → Int32 → Int32 → Option (Int32 × Mem) := fx (fX10_moves_B13 ) (fun _ _ _ _ => none) n
def fX10_moves  (σ : Mem) (a1 : Int32) : Option (Int32 × Mem) :=
    lt (mst σ 124 0 (0 : Int32)) fun σ3 =>
    bv (fX10_findMoves σ3) fun σ4 =>
    fX10_moves_L13  FU σ4 a1 (0 : Int32) (0 : Int32)
def fX10_move  (σ : Mem) (a1 a2 : Int32) : Option (Int32 × Mem) :=
    bv (fX10_findMoves σ) fun σ7 =>
    bd (fX10_isBetween σ7 a1 (0 : Int32) ((σ7 124 39) - (1 : Int32))) fun v8 σ8 =>
    if v8 = 0 then (bd (fX10_fails σ8 (1 : Int32)) fun v12 σ12 =>
    some (v12, σ12))
    else (bd (fX10_isBetween σ8 a2 (0 : Int32) (5 : Int32)) fun v9 σ9 =>
    if v9 = 0 then (bd (fX10_fails σ9 (2 : Int32)) fun v11 σ11 =>
    some (v11, σ11))
    else (lt (mst σ9 124 0 (0 : Int32)) fun σ10 =>
    if a2 = (0 : Int32) then (ck a1 400 (some (σ10 139 a1.toNatClampNeg, σ10)))
    else (if a2 = (1 : Int32) then (ck a1 400 (some (σ10 140 a1.toNatClampNeg, σ10)))
    else (if a2 = (2 : Int32) then (ck a1 400 (some (σ10 141 a1.toNatClampNeg, σ10)))
    else (if a2 = (3 : Int32) then (ck a1 400 (some (σ10 142 a1.toNatClampNeg, σ10)))
    else (if a2 = (4 : Int32) then (ck a1 400 (some (σ10 143 a1.toNatClampNeg, σ10)))
    else (ck a1 400 (if (σ10 145 a1.toNatClampNeg) = 0 then (some ((0 : Int32), σ10))
    else (some ((1 : Int32), σ10))))))))))
def fX10_leastMove_L53  (r8 : Mem → Int32 → Int32 → Int32 → Option (Int32 × Mem))  (σ : Mem) (l1 l3 s0 : Int32) : Option (Int32 × Mem) :=
    r8 σ l1 s0 (l3 + (1 : Int32))
def fX10_leastMove_L52  (r8 : Mem → Int32 → Int32 → Int32 → Option (Int32 × Mem))  (σ : Mem) (l1 l2 l3 : Int32) : Option (Int32 × Mem) :=
    fX10_leastMove_L53 r8 σ l1 l3 l2
def fX10_leastMove_L48  (r8 : Mem → Int32 → Int32 → Int32 → Option (Int32 × Mem))  (σ : Mem) (l1 l3 : Int32) : Option (Int32 × Mem) :=
    fX10_leastMove_L53 r8 σ l1 l3 l3
def fX10_leastMove_L29  (r8 : Mem → Int32 → Int32 → Int32 → Option (Int32 × Mem))  (σ : Mem) (l1 l2 l3 : Int32) : Option (Int32 × Mem) :=
    if l2 < 0 then (fX10_leastMove_L48 r8 σ l1 l3)
    else (ck l3 400 (ck l2 400 (if (σ 143 l2.toNatClampNeg) ≤ (σ 143 l3.toNatClampNeg) then (fX10_leastMove_L52 r8 σ l1 l2 l3)
    else (fX10_leastMove_L48 r8 σ l1 l3))))
def fX10_leastMove_B8   (r8 : Mem → Int32 → Int32 → Int32 → Option (Int32 × Mem)) (σ : Mem) (l1 l2 l3 : Int32) : Option (Int32 × Mem) :=
    if (σ 124 39) ≤ l3 then (some (l2, σ))
    else (if l1 = 0 then (ck l3 400 (if (σ 145 l3.toNatClampNeg) = 0 then (fX10_leastMove_L29 r8 σ l1 l2 l3)
    else (fX10_leastMove_L52 r8 σ l1 l2 l3)))
    else (fX10_leastMove_L29 r8 σ l1 l2 l3))
def fX10_leastMove_L8   (n : Nat) : Mem → Int32 → Int32 → Int32 → Option (Int32 × Mem) := fx (fX10_leastMove_B8 ) (fun _ _ _ _ => none) n
def fX10_leastMove  (σ : Mem) (a1 : Int32) : Option (Int32 × Mem) :=
    bv (fX10_findMoves σ) fun σ2 =>
    fX10_leastMove_L8  FU σ2 a1 (-1 : Int32) (0 : Int32)
def fX10_nextMove  (σ : Mem) : Option (Int32 × Mem) :=
    bd (fX10_leastMove σ (0 : Int32)) fun v4 σ4 =>
    if 0 ≤ v4 then (lt (mst σ4 124 0 (0 : Int32)) fun σ5 =>
    some (v4, σ5))
    else (bd (fX10_fails σ4 (1 : Int32)) fun v6 σ6 =>
    some (v6, σ6))
def fX10_isForbidden_L50    (σ : Mem) : Option (Int32 × Mem) :=
    some ((0 : Int32), σ)
def fX10_isForbidden_L27    (σ : Mem) (l1 l2 s1 : Int32) : Option (Int32 × Mem) :=
    lt (mst σ 124 0 s1) fun σ5 =>
    if (σ5 124 0) = 0 then (bd (fX10_isForbiddenNow σ5 l1 l2) fun v6 σ6 =>
    if v6 = 0 then (fX10_isForbidden_L50  σ6)
    else (some ((1 : Int32), σ6)))
    else (fX10_isForbidden_L50  σ5)
def fX10_isForbidden  (σ : Mem) (a1 a2 : Int32) : Option (Int32 × Mem) :=
    bd (fX10_isVariable σ a1) fun v7 σ7 =>
    if v7 = 0 then (fX10_isForbidden_L27  σ7 a1 a2 (1 : Int32))
    else (bd (fX10_isIn σ7 a1 a2) fun v8 σ8 =>
    if v8 = 0 then (fX10_isForbidden_L27  σ8 a1 a2 (2 : Int32))
    else (fX10_isForbidden_L27  σ8 a1 a2 (0 : Int32)))
def fX10_isLocalOptimum_L28    (σ : Mem) : Option (Int32 × Mem) :=
    some ((1 : Int32), σ)
def fX10_isLocalOptimum  (σ : Mem) : Option (Int32 × Mem) :=
    lt (mst σ 124 0 (0 : Int32)) fun σ3 =>
    bd (fX10_leastMove σ3 (1 : Int32)) fun v4 σ4 =>
    if v4 < 0 then (fX10_isLocalOptimum_L28  σ4)
    else (ck v4 400 (if (σ4 143 v4.toNatClampNeg) < (σ4 124 13) then (some ((0 : Int32), σ4))
    else (fX10_isLocalOptimum_L28  σ4)))
def fX10_logs_L53    (σ : Mem) (l1 : Int32) : Option (Mem) :=
    ck l1 400 (ck ((7 : Int32) * (σ 124 19)) 280 (lt (mst σ 134 ((7 : Int32) * (σ 124 19)).toNatClampNeg (σ 139 l1.toNatClampNeg)) fun σ11 =>
    ck l1 400 (ck (((7 : Int32) * (σ 124 19)) + (1 : Int32)) 280 (lt (mst σ11 134 (((7 : Int32) * (σ 124 19)) + (1 : Int32)).toNatClampNeg (σ11 140 l1.toNatClampNeg)) fun σ12 =>
    ck l1 400 (ck (((7 : Int32) * (σ 124 19)) + (2 : Int32)) 280 (lt (mst σ12 134 (((7 : Int32) * (σ 124 19)) + (2 : Int32)).toNatClampNeg (σ12 141 l1.toNatClampNeg)) fun σ13 =>
    ck l1 400 (ck (((7 : Int32) * (σ 124 19)) + (3 : Int32)) 280 (lt (mst σ13 134 (((7 : Int32) * (σ 124 19)) + (3 : Int32)).toNatClampNeg (σ13 142 l1.toNatClampNeg)) fun σ14 =>
    ck l1 400 (ck (((7 : Int32) * (σ 124 19)) + (4 : Int32)) 280 (lt (mst σ14 134 (((7 : Int32) * (σ 124 19)) + (4 : Int32)).toNatClampNeg (σ14 143 l1.toNatClampNeg)) fun σ15 =>
    ck (((7 : Int32) * (σ 124 19)) + (5 : Int32)) 280 (lt (mst σ15 134 (((7 : Int32) * (σ 124 19)) + (5 : Int32)).toNatClampNeg (σ15 124 15)) fun σ16 =>
    ck (((7 : Int32) * (σ 124 19)) + (6 : Int32)) 280 (lt (mst σ16 134 (((7 : Int32) * (σ 124 19)) + (6 : Int32)).toNatClampNeg (σ16 124 13)) fun σ17 =>
    lt (mst σ17 124 19 ((σ17 124 19) + (1 : Int32))) fun σ18 =>
    some σ18))))))))))))
def fX10_logs_B21   (r21 : Mem → Int32 → Int32 → Option (Mem)) (σ : Mem) (l1 l2 : Int32) : Option (Mem) :=
    if ((7 : Int32) * (σ 124 19)) ≤ l2 then (fX10_logs_L53  σ l1)
    else (ck (l2 + (7 : Int32)) 280 (ck l2 280 (lt (mst σ 134 l2.toNatClampNeg (σ 134 (l2 + (7 : Int32)).toNatClampNeg)) fun σ19 =>
    r21 σ19 l1 (l2 + (1 : Int32)))))
def fX10_logs_L21   (n : Nat) : Mem → Int32 → Int32 → Option (Mem) := fx (fX10_logs_B21 ) (fun _ _ _ => none) n
def fX10_logs  (σ : Mem) (a1 : Int32) : Option (Mem) :=
    if (σ 124 19) = (40 : Int32) then (lt (mst σ 124 19 ((σ 124 19) - (1 : Int32))) fun σ20 =>
    fX10_logs_L21  FU σ20 a1 (0 : Int32))
    else (fX10_logs_L53  σ a1)
def fX10_takesMove_B30   (r30 : Mem → Int32 → Option (Mem)) (σ : Mem) (l2 : Int32) : Option (Mem) :=
    if (σ 124 7) ≤ l2 then (bv (fX10_counts σ) fun σ4 =>
    some σ4)
    else (ck l2 10 (ck l2 10 (lt (mst σ 126 l2.toNatClampNeg (σ 144 l2.toNatClampNeg)) fun σ5 =>
    r30 σ5 (l2 + (1 : Int32)))))
def fX10_takesMove_L30   (n : Nat) : Mem → Int32 → Option (Mem) := fx (fX10_takesMove_B30 ) (fun _ _ => none) n
def fX10_takesMove  (σ : Mem) (a1 : Int32) : Option (Mem) :=
    ck a1 400 (ck a1 400 (ck a1 400 (ck a1 400 (bv (fX10_findThen σ (σ 139 a1.toNatClampNeg) (σ 140 a1.toNatClampNeg) (σ 141 a1.toNatClampNeg) (σ 142 a1.toNatClampNeg)) fun σ6 =>
    fX10_takesMove_L30  FU σ6 (0 : Int32)))))
def fX10_restarts_B2   (r2 : Mem → Int32 → Option (Mem)) (σ : Mem) (l1 : Int32) : Option (Mem) :=
    if (σ 124 7) ≤ l1 then (bv (fX10_allowsAll σ) fun σ7 =>
    lt (mst σ7 124 16 (0 : Int32)) fun σ8 =>
    lt (mst σ8 124 17 ((σ8 124 17) + (1 : Int32))) fun σ9 =>
    bv (fX10_counts σ9) fun σ10 =>
    some σ10)
    else (lt (mst σ 124 23 ((((σ 124 23) * (1103515245 : Int32)) + (12345 : Int32)) &&& (2147483647 : Int32))) fun σ11 =>
    ck l1 10 (ckn (σ11 125 l1.toNatClampNeg) (ck l1 10 (lt (mst σ11 126 l1.toNatClampNeg (((σ11 124 23) >>> ((16 : Int32) &&& 31)) - ((σ11 124 23) >>> ((16 : Int32) &&& 31)) / (σ11 125 l1.toNatClampNeg) * (σ11 125 l1.toNatClampNeg))) fun σ12 =>
    r2 σ12 (l1 + (1 : Int32))))))
def fX10_restarts_L2   (n : Nat) : Mem → Int32 → Option (Mem) := fx (fX10_restarts_B2 ) (fun _ _ => none) n
def fX10_restarts  (σ : Mem) : Option (Mem) :=
    fX10_restarts_L2  FU σ (0 : Int32)
def fX10_steps_L178    (σ : Mem) : Option (Int32 × Mem) :=
    some ((1 : Int32), σ)
def fX10_steps_L160    (σ : Mem) (s1 : Int32) : Option (Int32 × Mem) :=
    lt (mst σ 124 16 s1) fun σ10 =>
    if (σ10 124 16) < (σ10 124 22) then (fX10_steps_L178  σ10)
    else (bv (fX10_restarts σ10) fun σ11 =>
    fX10_steps_L178  σ11)
def fX10_steps_L125  (r57 : Mem → Int32 → Int32 → Option (Int32 × Mem))  (σ : Mem) (l1 l2 : Int32) : Option (Int32 × Mem) :=
    r57 σ l1 (l2 + (1 : Int32))
def fX10_steps_B57   (r57 : Mem → Int32 → Int32 → Option (Int32 × Mem)) (σ : Mem) (l1 l2 : Int32) : Option (Int32 × Mem) :=
    if (σ 124 7) ≤ l2 then (bv (fX10_takesMove σ l1) fun σ12 =>
    if (σ 124 14) ≤ (σ12 124 14) then (fX10_steps_L160  σ12 ((σ12 124 16) + (1 : Int32)))
    else (fX10_steps_L160  σ12 (0 : Int32)))
    else (ck l2 10 (li (((8 : Int32) * l2) + (σ 126 l2.toNatClampNeg)) fun x13 =>
    ck l2 10 (ck l2 10 (if (σ 144 l2.toNatClampNeg) = (σ 126 l2.toNatClampNeg) then (fX10_steps_L125 r57 σ l1 l2)
    else (ck x13 80 (if ((σ 124 15) + (σ 124 21)) ≤ (σ 133 x13.toNatClampNeg) then (fX10_steps_L125 r57 σ l1 l2)
    else (ck x13 80 (lt (mst σ 133 x13.toNatClampNeg ((σ 124 15) + (σ 124 21))) fun σ14 =>
    fX10_steps_L125 r57 σ14 l1 l2))))))))
def fX10_steps_L57   (n : Nat) : Mem → Int32 → Int32 → Option (Int32 × Mem) := fx (fX10_steps_B57 ) (fun _ _ _ => none) n
def fX10_steps  (σ : Mem) : Option (Int32 × Mem) :=
    bd (fX10_leastMove σ (0 : Int32)) fun v15 σ15 =>
    if 0 ≤ v15 then (lt (mst σ15 124 15 ((σ15 124 15) + (1 : Int32))) fun σ16 =>
    bv (fX10_logs σ16 v15) fun σ17 =>
    ck v15 400 (ck v15 400 (ck v15 400 (ck v15 400 (bv (fX10_findThen σ17 (σ17 139 v15.toNatClampNeg) (σ17 140 v15.toNatClampNeg) (σ17 141 v15.toNatClampNeg) (σ17 142 v15.toNatClampNeg)) fun σ18 =>
    fX10_steps_L57  FU σ18 v15 (0 : Int32))))))
    else (some ((0 : Int32), σ15))
def fX10_step  (σ : Mem) : Option (Int32 × Mem) :=
    bd (fX10_steps σ) fun v4 σ4 =>
    if v4 = 0 then (bd (fX10_fails σ4 (1 : Int32)) fun v6 σ6 =>
    some (v6, σ6))
    else (lt (mst σ4 124 0 (0 : Int32)) fun σ5 =>
    some (σ5 124 13, σ5))
def fX10_run_L48    (σ : Mem) (l2 : Int32) : Option (Int32 × Mem) :=
    some (l2, σ)
def fX10_run_B23   (r23 : Mem → Int32 → Int32 → Option (Int32 × Mem)) (σ : Mem) (l1 l2 : Int32) : Option (Int32 × Mem) :=
    if l1 ≤ l2 then (fX10_run_L48  σ l2)
    else (if (σ 124 13) ≤ 0 then (fX10_run_L48  σ l2)
    else (bd (fX10_steps σ) fun v5 σ5 =>
    if v5 = 0 then (fX10_run_L48  σ5 l2)
    else (r23 σ5 l1 (l2 + (1 : Int32)))))
def fX10_run_L23   (n : Nat) : Mem → Int32 → Int32 → Option (Int32 × Mem) := fx (fX10_run_B23 ) (fun _ _ _ => none) n
def fX10_run  (σ : Mem) (a1 : Int32) : Option (Int32 × Mem) :=
    bd (fX10_isBetween σ a1 (1 : Int32) (30 : Int32)) fun v6 σ6 =>
    if v6 = 0 then (bd (fX10_fails σ6 (1 : Int32)) fun v8 σ8 =>
    some (v8, σ8))
    else (lt (mst σ6 124 0 (0 : Int32)) fun σ7 =>
    fX10_run_L23  FU σ7 a1 (0 : Int32))
def fX10_descend_L47    (σ : Mem) (l1 : Int32) : Option (Int32 × Mem) :=
    some (l1, σ)
def fX10_descend_B13   (r13 : Mem → Int32 → Int32 → Option (Int32 × Mem)) (σ : Mem) (l1 l2 : Int32) : Option (Int32 × Mem) :=
    if l2 < 0 then (fX10_descend_L47  σ l1)
    else (ck l2 400 (if (σ 124 13) ≤ (σ 143 l2.toNatClampNeg) then (fX10_descend_L47  σ l1)
    else (bv (fX10_takesMove σ l2) fun σ5 =>
    bd (fX10_leastMove σ5 (1 : Int32)) fun v6 σ6 =>
    r13 σ6 (l1 + (1 : Int32)) v6)))
def fX10_descend_L13   (n : Nat) : Mem → Int32 → Int32 → Option (Int32 × Mem) := fx (fX10_descend_B13 ) (fun _ _ _ => none) n
def fX10_descend  (σ : Mem) : Option (Int32 × Mem) :=
    lt (mst σ 124 0 (0 : Int32)) fun σ7 =>
    bd (fX10_leastMove σ7 (1 : Int32)) fun v8 σ8 =>
    fX10_descend_L13  FU σ8 (0 : Int32) v8
def fX10_restart  (σ : Mem) : Option (Int32 × Mem) :=
    lt (mst σ 124 0 (0 : Int32)) fun σ3 =>
    bv (fX10_restarts σ3) fun σ4 =>
    some (σ4 124 13, σ4)
def fX10_search  (σ : Mem) (a1 : Int32) : Option (Int32 × Mem) :=
    bd (fX10_isBetween σ a1 (0 : Int32) (4 : Int32)) fun v4 σ4 =>
    if v4 = 0 then (bd (fX10_fails σ4 (1 : Int32)) fun v6 σ6 =>
    some (v6, σ6))
    else (lt (mst σ4 124 0 (0 : Int32)) fun σ5 =>
    if a1 = 0 then (some (σ5 124 15, σ5))
    else (if a1 = (1 : Int32) then (some (σ5 124 16, σ5))
    else (if a1 = (2 : Int32) then (some (σ5 124 17, σ5))
    else (if a1 = (3 : Int32) then (some (σ5 124 23, σ5))
    else (some (σ5 124 18, σ5))))))
def fX10_logSize  (σ : Mem) : Option (Int32 × Mem) :=
    lt (mst σ 124 0 (0 : Int32)) fun σ2 =>
    some (σ2 124 19, σ2)
def fX10_log  (σ : Mem) (a1 a2 : Int32) : Option (Int32 × Mem) :=
    bd (fX10_isBetween σ a1 (0 : Int32) ((σ 124 19) - (1 : Int32))) fun v6 σ6 =>
    if v6 = 0 then (bd (fX10_fails σ6 (1 : Int32)) fun v10 σ10 =>
    some (v10, σ10))
    else (bd (fX10_isBetween σ6 a2 (0 : Int32) (5 : Int32)) fun v7 σ7 =>
    if v7 = 0 then (bd (fX10_fails σ7 (2 : Int32)) fun v9 σ9 =>
    some (v9, σ9))
    else (lt (mst σ7 124 0 (0 : Int32)) fun σ8 =>
    ck (((7 : Int32) * a1) + a2) 280 (some (σ8 134 (((7 : Int32) * a1) + a2).toNatClampNeg, σ8))))
def fX10_improvingShare_L65    (σ : Mem) (l1 s1 : Int32) : Option (UInt64 × Mem) :=
    lt (mst σ 124 0 s1) fun σ2 =>
    if (σ2 124 19) = 0 then (some ((0 : UInt64), σ2))
    else (ckd (FP.ddiv (FP.i2d l1) (FP.i2d (σ2 124 19))) (some (FP.ddiv (FP.i2d l1) (FP.i2d (σ2 124 19)), σ2)))
def fX10_improvingShare_L44  (r4 : Mem → Int32 → Int32 → Option (UInt64 × Mem))  (σ : Mem) (l2 s0 s1 : Int32) : Option (UInt64 × Mem) :=
    r4 σ (s0 + s1) (l2 + (1 : Int32))
def fX10_improvingShare_B4   (r4 : Mem → Int32 → Int32 → Option (UInt64 × Mem)) (σ : Mem) (l1 l2 : Int32) : Option (UInt64 × Mem) :=
    if (σ 124 19) ≤ l2 then (if (σ 124 19) = 0 then (fX10_improvingShare_L65  σ l1 (1 : Int32))
    else (fX10_improvingShare_L65  σ l1 (0 : Int32)))
    else (ck (((7 : Int32) * l2) + (4 : Int32)) 280 (ck (((7 : Int32) * l2) + (6 : Int32)) 280 (if (σ 134 (((7 : Int32) * l2) + (6 : Int32)).toNatClampNeg) ≤ (σ 134 (((7 : Int32) * l2) + (4 : Int32)).toNatClampNeg) then (fX10_improvingShare_L44 r4 σ l2 l1 (0 : Int32))
    else (fX10_improvingShare_L44 r4 σ l2 l1 (1 : Int32)))))
def fX10_improvingShare_L4   (n : Nat) : Mem → Int32 → Int32 → Option (UInt64 × Mem) := fx (fX10_improvingShare_B4 ) (fun _ _ _ => none) n
def fX10_improvingShare  (σ : Mem) : Option (UInt64 × Mem) :=
    fX10_improvingShare_L4  FU σ (0 : Int32) (0 : Int32)
def fX10_goesOn_B7   (r7 : Mem → Int32 → Option (Int32 × Mem)) (σ : Mem) (l1 : Int32) : Option (Int32 × Mem) :=
    if l1 < 0 then (some ((0 : Int32), σ))
    else (ck l1 10 (ck l1 10 (lt (mst σ 146 l1.toNatClampNeg ((σ 146 l1.toNatClampNeg) + (1 : Int32))) fun σ3 =>
    ck l1 10 (ck l1 10 (if (σ3 125 l1.toNatClampNeg) ≤ (σ3 146 l1.toNatClampNeg) then (ck l1 10 (lt (mst σ3 146 l1.toNatClampNeg (0 : Int32)) fun σ4 =>
    r7 σ4 (l1 + (-1 : Int32))))
    else (some ((1 : Int32), σ3)))))))
def fX10_goesOn_L7   (n : Nat) : Mem → Int32 → Option (Int32 × Mem) := fx (fX10_goesOn_B7 ) (fun _ _ => none) n
def fX10_goesOn  (σ : Mem) : Option (Int32 × Mem) :=
    fX10_goesOn_L7  FU σ ((σ 124 7) - (1 : Int32))
def fX10_violatedBy_L29 (q1 : Nat) (r4 : Mem → Int32 → Int32 → Option (Int32 × Mem))  (σ : Mem) (l3 s0 s1 : Int32) : Option (Int32 × Mem) :=
    r4 σ (s0 ||| s1) (l3 + (1 : Int32))
def fX10_violatedBy_B4 (q1 : Nat)  (r4 : Mem → Int32 → Int32 → Option (Int32 × Mem)) (σ : Mem) (l2 l3 : Int32) : Option (Int32 × Mem) :=
    if (σ 124 8) ≤ l3 then (some (l2, σ))
    else (bd (fX10_violationOf q1 σ l3) fun v2 σ2 =>
    if v2 ≤ 0 then (fX10_violatedBy_L29 q1 r4 σ2 l3 l2 (0 : Int32))
    else (fX10_violatedBy_L29 q1 r4 σ2 l3 l2 ((1 : Int32) <<< (l3 &&& 31))))
def fX10_violatedBy_L4 (q1 : Nat)  (n : Nat) : Mem → Int32 → Int32 → Option (Int32 × Mem) := fx (fX10_violatedBy_B4 q1) (fun _ _ _ => none) n
def fX10_violatedBy (q1 : Nat) (σ : Mem) : Option (Int32 × Mem) :=
    fX10_violatedBy_L4 q1 FU σ (0 : Int32) (0 : Int32)
def fX10_findsAll_L183  (r44 : Mem → Option (Int32 × Mem))  (σ : Mem) : Option (Int32 × Mem) :=
    bd (fX10_goesOn σ) fun v14 σ14 =>
    if v14 = 0 then (some ((1 : Int32), σ14))
    else (r44 σ14)
def fX10_findsAll_L178  (r44 : Mem → Option (Int32 × Mem))  (σ : Mem) (l1 : Int32) : Option (Int32 × Mem) :=
    lt (mst σ 124 42 l1) fun σ15 =>
    fX10_findsAll_L183 r44 σ15
def fX10_findsAll_B144  (r44 : Mem → Option (Int32 × Mem)) (r144 : Mem → Int32 → Int32 → Option (Int32 × Mem)) (σ : Mem) (l1 l2 : Int32) : Option (Int32 × Mem) :=
    if (σ 124 7) ≤ l2 then (fX10_findsAll_L178 r44 σ l1)
    else (if (σ 124 42) ≤ l1 then (fX10_findsAll_L178 r44 σ l1)
    else (ck l2 10 (ck l2 10 (lt (mst σ 147 l2.toNatClampNeg (σ 146 l2.toNatClampNeg)) fun σ16 =>
    r144 σ16 l1 (l2 + (1 : Int32))))))
def fX10_findsAll_L144  (r44 : Mem → Option (Int32 × Mem)) (n : Nat) : Mem → Int32 → Int32 → Option (Int32 × Mem) := fx (fX10_findsAll_B144 r44) (fun _ _ _ => none) n
def fX10_findsAll_L139  (r44 : Mem → Option (Int32 × Mem))  (σ : Mem) (l1 s1 : Int32) : Option (Int32 × Mem) :=
    lt (mst σ 124 45 s1) fun σ17 =>
    fX10_findsAll_L144 r44 FU σ17 l1 (0 : Int32)
def fX10_findsAll_L103  (r44 : Mem → Option (Int32 × Mem))  (σ : Mem) (l1 s1 : Int32) : Option (Int32 × Mem) :=
    lt (mst σ 124 43 s1) fun σ18 =>
    if (σ18 124 42) ≤ l1 then (bd (fX10_violatedBy 146 σ18) fun v19 σ19 =>
    fX10_findsAll_L139 r44 σ19 l1 ((σ18 124 45) &&& v19))
    else (bd (fX10_violatedBy 146 σ18) fun v20 σ20 =>
    fX10_findsAll_L139 r44 σ20 l1 v20)
def fX10_findsAll_L70  (r44 : Mem → Option (Int32 × Mem))  (σ : Mem) (l1 s1 : Int32) : Option (Int32 × Mem) :=
    lt (mst σ 124 44 s1) fun σ21 =>
    if l1 ≤ (σ21 124 42) then (if (σ21 124 42) ≤ l1 then (fX10_findsAll_L103 r44 σ21 l1 ((σ21 124 43) + (1 : Int32)))
    else (fX10_findsAll_L103 r44 σ21 l1 (1 : Int32)))
    else (fX10_findsAll_L183 r44 σ21)
def fX10_findsAll_B44   (r44 : Mem → Option (Int32 × Mem)) (σ : Mem) : Option (Int32 × Mem) :=
    bd (fX10_costOf 146 σ) fun v22 σ22 =>
    if v22 ≤ (σ22 124 44) then (fX10_findsAll_L70 r44 σ22 v22 (σ22 124 44))
    else (fX10_findsAll_L70 r44 σ22 v22 v22)
def fX10_findsAll_L44   (n : Nat) : Mem → Option (Int32 × Mem) := fx (fX10_findsAll_B44 ) (fun _  => none) n
def fX10_findsAll_B14   (r14 : Mem → Int32 → Option (Int32 × Mem)) (σ : Mem) (l1 : Int32) : Option (Int32 × Mem) :=
    if (10 : Int32) ≤ l1 then (lt (mst σ 124 42 (2147483647 : Int32)) fun σ23 =>
    lt (mst σ23 124 44 (0 : Int32)) fun σ24 =>
    fX10_findsAll_L44  FU σ24)
    else (ck l1 10 (lt (mst σ 146 l1.toNatClampNeg (0 : Int32)) fun σ25 =>
    r14 σ25 (l1 + (1 : Int32))))
def fX10_findsAll_L14   (n : Nat) : Mem → Int32 → Option (Int32 × Mem) := fx (fX10_findsAll_B14 ) (fun _ _ => none) n
def fX10_findsAll  (σ : Mem) : Option (Int32 × Mem) :=
    bd (fX10_combinations σ) fun v26 σ26 =>
    if v26 ≤ (5000 : Int32) then (fX10_findsAll_L14  FU σ26 (0 : Int32))
    else (some ((0 : Int32), σ26))
def fX10_optimum  (σ : Mem) : Option (Int32 × Mem) :=
    bd (fX10_findsAll σ) fun v4 σ4 =>
    if v4 = 0 then (bd (fX10_fails σ4 (1 : Int32)) fun v6 σ6 =>
    some (v6, σ6))
    else (lt (mst σ4 124 0 (0 : Int32)) fun σ5 =>
    some (σ5 124 42, σ5))
def fX10_optima  (σ : Mem) : Option (Int32 × Mem) :=
    bd (fX10_findsAll σ) fun v4 σ4 =>
    if v4 = 0 then (bd (fX10_fails σ4 (1 : Int32)) fun v6 σ6 =>
    some (v6, σ6))
    else (lt (mst σ4 124 0 (0 : Int32)) fun σ5 =>
    some (σ5 124 43, σ5))
def fX10_optimalValue  (σ : Mem) (a1 : Int32) : Option (Int32 × Mem) :=
    bd (fX10_isVariable σ a1) fun v6 σ6 =>
    if v6 = 0 then (bd (fX10_fails σ6 (1 : Int32)) fun v10 σ10 =>
    some (v10, σ10))
    else (bd (fX10_findsAll σ6) fun v7 σ7 =>
    if v7 = 0 then (bd (fX10_fails σ7 (2 : Int32)) fun v9 σ9 =>
    some (v9, σ9))
    else (lt (mst σ7 124 0 (0 : Int32)) fun σ8 =>
    ck a1 10 (some (σ8 147 a1.toNatClampNeg, σ8))))
def fX10_worst  (σ : Mem) : Option (Int32 × Mem) :=
    bd (fX10_findsAll σ) fun v4 σ4 =>
    if v4 = 0 then (bd (fX10_fails σ4 (1 : Int32)) fun v6 σ6 =>
    some (v6, σ6))
    else (lt (mst σ4 124 0 (0 : Int32)) fun σ5 =>
    some (σ5 124 44, σ5))
def fX10_unavoidable_B22   (r22 : Mem → Int32 → Int32 → Option (Int32 × Mem)) (σ : Mem) (l1 l2 : Int32) : Option (Int32 × Mem) :=
    if (20 : Int32) ≤ l2 then (some (l1, σ))
    else (li (l1 + (((σ 124 45) >>> (l2 &&& 31)) &&& (1 : Int32))) fun x5 =>
    r22 σ x5 (l2 + (1 : Int32)))
def fX10_unavoidable_L22   (n : Nat) : Mem → Int32 → Int32 → Option (Int32 × Mem) := fx (fX10_unavoidable_B22 ) (fun _ _ _ => none) n
def fX10_unavoidable  (σ : Mem) : Option (Int32 × Mem) :=
    bd (fX10_findsAll σ) fun v6 σ6 =>
    if v6 = 0 then (bd (fX10_fails σ6 (1 : Int32)) fun v8 σ8 =>
    some (v8, σ8))
    else (lt (mst σ6 124 0 (0 : Int32)) fun σ7 =>
    fX10_unavoidable_L22  FU σ7 (0 : Int32) (0 : Int32))
def fX10_append  (σ : Mem) (a1 : Int32) : Option (Int32 × Mem) :=
    bd (fX10_isBetween σ a1 (32 : Int32) (126 : Int32)) fun v7 σ7 =>
    if v7 = 0 then (bd (fX10_fails σ7 (1 : Int32)) fun v12 σ12 =>
    some (v12, σ12))
    else (if (σ7 124 52) = (60 : Int32) then (bd (fX10_fails σ7 (2 : Int32)) fun v11 σ11 =>
    some (v11, σ11))
    else (lt (mst σ7 124 0 (0 : Int32)) fun σ8 =>
    ck (σ8 124 52) 60 (lt (mst σ8 148 (σ8 124 52).toNatClampNeg a1) fun σ9 =>
    lt (mst σ9 124 52 ((σ9 124 52) + (1 : Int32))) fun σ10 =>
    some (σ10 124 52, σ10))))
def fX10_isNext_L32    (σ : Mem) : Option (Int32 × Mem) :=
    some ((0 : Int32), σ)
def fX10_isNext  (σ : Mem) (a1 a2 : Int32) : Option (Int32 × Mem) :=
    if (σ 124 52) ≤ (σ 124 53) then (fX10_isNext_L32  σ)
    else (ck (σ 124 53) 60 (bd (fX10_isBetween σ (σ 148 (σ 124 53).toNatClampNeg) a1 a2) fun v2 σ2 =>
    if v2 = 0 then (fX10_isNext_L32  σ2)
    else (some ((1 : Int32), σ2))))
def fX10_skips  (σ : Mem) (a1 : Int32) : Option (Int32 × Mem) :=
    bd (fX10_isNext σ a1 a1) fun v3 σ3 =>
    if v3 = 0 then (some ((0 : Int32), σ3))
    else (lt (mst σ3 124 53 ((σ3 124 53) + (1 : Int32))) fun σ4 =>
    some ((1 : Int32), σ4))
def fX10_takesMembers_L106    (σ : Mem) (l2 : Int32) : Option (Int32 × Mem) :=
    ck (σ 124 54) 30 (lt (mst σ 151 (σ 124 54).toNatClampNeg l2) fun σ11 =>
    some ((1 : Int32), σ11))
def fX10_takesMembers_B55   (r55 : Mem → Int32 → Int32 → Option (Int32 × Mem)) (σ : Mem) (l1 l2 : Int32) : Option (Int32 × Mem) :=
    if (9 : Int32) ≤ l1 then (fX10_takesMembers_L106  σ l2)
    else (bd (fX10_isNext σ ((49 : Int32) + l1) (57 : Int32)) fun v12 σ12 =>
    if v12 = 0 then (fX10_takesMembers_L106  σ12 l2)
    else (ck (σ12 124 53) 60 (li ((σ12 148 (σ12 124 53).toNatClampNeg) - (48 : Int32)) fun x13 =>
    li (l2 ||| ((1 : Int32) <<< (x13 &&& 31))) fun x14 =>
    lt (mst σ12 124 53 ((σ12 124 53) + (1 : Int32))) fun σ15 =>
    r55 σ15 x13 x14)))
def fX10_takesMembers_L55   (n : Nat) : Mem → Int32 → Int32 → Option (Int32 × Mem) := fx (fX10_takesMembers_B55 ) (fun _ _ _ => none) n
def fX10_takesMembers  (σ : Mem) : Option (Int32 × Mem) :=
    bd (fX10_isNext σ (48 : Int32) (56 : Int32)) fun v16 σ16 =>
    if v16 = 0 then (some ((0 : Int32), σ16))
    else (ck (σ16 124 53) 60 (li ((σ16 148 (σ16 124 53).toNatClampNeg) - (48 : Int32)) fun x17 =>
    li ((1 : Int32) <<< (x17 &&& 31)) fun x18 =>
    lt (mst σ16 124 53 ((σ16 124 53) + (1 : Int32))) fun σ19 =>
    bd (fX10_isNext σ19 ((49 : Int32) + x17) (57 : Int32)) fun v20 σ20 =>
    if v20 = 0 then (some ((0 : Int32), σ20))
    else (fX10_takesMembers_L55  FU σ20 x17 x18)))
def fX10_takesNumber_L116    (σ : Mem) (s1 s2 : Int32) : Option (Int32 × Mem) :=
    ck s1 30 (lt (mst σ 152 s1.toNatClampNeg s2) fun σ9 =>
    some ((1 : Int32), σ9))
def fX10_takesNumber_L98    (σ : Mem) (l1 l2 : Int32) : Option (Int32 × Mem) :=
    if l1 = 0 then (fX10_takesNumber_L116  σ (σ 124 54) l2)
    else (fX10_takesNumber_L116  σ (σ 124 54) (-l2))
def fX10_takesNumber_L64    (σ : Mem) (l1 l2 s1 s2 : Int32) : Option (Int32 × Mem) :=
    bd (fX10_isNext σ s1 s2) fun v10 σ10 =>
    if v10 = 0 then (fX10_takesNumber_L98  σ10 l1 l2)
    else (ck (σ10 124 53) 60 (li ((((10 : Int32) * l2) + (σ10 148 (σ10 124 53).toNatClampNeg)) - (48 : Int32)) fun x11 =>
    lt (mst σ10 124 53 ((σ10 124 53) + (1 : Int32))) fun σ12 =>
    fX10_takesNumber_L98  σ12 l1 x11))
def fX10_takesNumber  (σ : Mem) : Option (Int32 × Mem) :=
    bd (fX10_skips σ (45 : Int32)) fun v13 σ13 =>
    bd (fX10_isNext σ13 (48 : Int32) (57 : Int32)) fun v14 σ14 =>
    if v14 = 0 then (some ((0 : Int32), σ14))
    else (ck (σ14 124 53) 60 (li ((σ14 148 (σ14 124 53).toNatClampNeg) - (48 : Int32)) fun x15 =>
    lt (mst σ14 124 53 ((σ14 124 53) + (1 : Int32))) fun σ16 =>
    if (6 : Int32) ≤ x15 then (fX10_takesNumber_L98  σ16 v13 x15)
    else (if x15 = (5 : Int32) then (fX10_takesNumber_L64  σ16 v13 x15 (48 : Int32) (48 : Int32))
    else (fX10_takesNumber_L64  σ16 v13 x15 (48 : Int32) (57 : Int32)))))
def fX10_takesEntry_L166    (σ : Mem) : Option (Int32 × Mem) :=
    lt (mst σ 124 53 ((σ 124 53) + (1 : Int32))) fun σ17 =>
    lt (mst σ17 124 54 ((σ17 124 54) + (1 : Int32))) fun σ18 =>
    bd (fX10_skips σ18 (59 : Int32)) fun v19 σ19 =>
    ckz v19 (some (v19, σ19))
def fX10_takesEntry_L143    (σ : Mem) : Option (Int32 × Mem) :=
    some ((0 : Int32), σ)
def fX10_takesEntry  (σ : Mem) : Option (Int32 × Mem) :=
    bd (fX10_skips σ (118 : Int32)) fun v20 σ20 =>
    if v20 = 0 then (bd (fX10_isNext σ20 (97 : Int32) (102 : Int32)) fun v21 σ21 =>
    if v21 = 0 then (some ((0 : Int32), σ21))
    else (ck (σ21 124 54) 30 (lt (mst σ21 149 (σ21 124 54).toNatClampNeg (0 : Int32)) fun σ22 =>
    ck (σ22 124 53) 60 (ck (σ22 124 54) 30 (lt (mst σ22 150 (σ22 124 54).toNatClampNeg ((σ22 148 (σ22 124 53).toNatClampNeg) - (97 : Int32))) fun σ23 =>
    lt (mst σ23 124 53 ((σ23 124 53) + (1 : Int32))) fun σ24 =>
    bd (fX10_takesMembers σ24) fun v25 σ25 =>
    if v25 = 0 then (fX10_takesEntry_L143  σ25)
    else (bd (fX10_skips σ25 (58 : Int32)) fun v26 σ26 =>
    if v26 = 0 then (fX10_takesEntry_L143  σ26)
    else (bd (fX10_takesNumber σ26) fun v27 σ27 =>
    if v27 = 0 then (fX10_takesEntry_L143  σ27)
    else (bd (fX10_skips σ27 (42 : Int32)) fun v28 σ28 =>
    if v28 = 0 then (fX10_takesEntry_L143  σ28)
    else (bd (fX10_isNext σ28 (49 : Int32) (57 : Int32)) fun v29 σ29 =>
    if v29 = 0 then (fX10_takesEntry_L143  σ29)
    else (ck (σ29 124 53) 60 (ck (σ29 124 54) 30 (lt (mst σ29 153 (σ29 124 54).toNatClampNeg ((σ29 148 (σ29 124 53).toNatClampNeg) - (48 : Int32))) fun σ30 =>
    fX10_takesEntry_L166  σ30))))))))))))
    else (bd (fX10_isNext σ20 (50 : Int32) (56 : Int32)) fun v31 σ31 =>
    if v31 = 0 then (some ((0 : Int32), σ31))
    else (ck (σ31 124 53) 60 (ck (σ31 124 54) 30 (lt (mst σ31 149 (σ31 124 54).toNatClampNeg ((σ31 148 (σ31 124 53).toNatClampNeg) - (48 : Int32))) fun σ32 =>
    fX10_takesEntry_L166  σ32))))
def fX10_takesText_B10   (r10 : Mem → Option (Int32 × Mem)) (σ : Mem) : Option (Int32 × Mem) :=
    bd (fX10_takesEntry σ) fun v4 σ4 =>
    if v4 = 0 then (some ((0 : Int32), σ4))
    else (if (σ4 124 53) < (σ4 124 52) then (r10 σ4)
    else (some ((1 : Int32), σ4)))
def fX10_takesText_L10   (n : Nat) : Mem → Option (Int32 × Mem) := fx (fX10_takesText_B10 ) (fun _  => none) n
def fX10_takesText  (σ : Mem) : Option (Int32 × Mem) :=
    lt (mst σ 124 53 (0 : Int32)) fun σ5 =>
    lt (mst σ5 124 54 (0 : Int32)) fun σ6 =>
    fX10_takesText_L10  FU σ6
def fX10_comesAll_L95  (r2 : Mem → Int32 → Option (Int32 × Mem))  (σ : Mem) (l1 : Int32) : Option (Int32 × Mem) :=
    r2 σ (l1 + (1 : Int32))
def fX10_comesAll_L65    (σ : Mem) : Option (Int32 × Mem) :=
    some ((0 : Int32), σ)
def fX10_comesAll_B2   (r2 : Mem → Int32 → Option (Int32 × Mem)) (σ : Mem) (l1 : Int32) : Option (Int32 × Mem) :=
    if (σ 124 54) ≤ l1 then (some ((1 : Int32), σ))
    else (ck l1 30 (if (σ 149 l1.toNatClampNeg) ≤ 0 then (if (σ 124 8) = (20 : Int32) then (fX10_comesAll_L65  σ)
    else (ck l1 30 (bd (fX10_doExist σ (σ 151 l1.toNatClampNeg)) fun v4 σ4 =>
    if v4 = 0 then (fX10_comesAll_L65  σ4)
    else (ck l1 30 (ck l1 30 (ck l1 30 (ck l1 30 (bv (fX10_comesConstraint σ4 (σ4 150 l1.toNatClampNeg) (σ4 151 l1.toNatClampNeg) (σ4 152 l1.toNatClampNeg) (σ4 153 l1.toNatClampNeg)) fun σ5 =>
    fX10_comesAll_L95 r2 σ5 l1))))))))
    else (if (σ 124 7) = (10 : Int32) then (some ((0 : Int32), σ))
    else (ck l1 30 (bv (fX10_comesVariable σ (σ 149 l1.toNatClampNeg)) fun σ6 =>
    fX10_comesAll_L95 r2 σ6 l1)))))
def fX10_comesAll_L2   (n : Nat) : Mem → Int32 → Option (Int32 × Mem) := fx (fX10_comesAll_B2 ) (fun _ _ => none) n
def fX10_comesAll  (σ : Mem) : Option (Int32 × Mem) :=
    fX10_comesAll_L2  FU σ (0 : Int32)
def fX10_read  (σ : Mem) : Option (Int32 × Mem) :=
    bd (fX10_takesText σ) fun v15 σ15 =>
    lt (mst σ15 124 52 (0 : Int32)) fun σ16 =>
    if v15 = 0 then (lt (mst σ16 124 55 (σ16 124 53)) fun σ27 =>
    bd (fX10_fails σ27 (1 : Int32)) fun v28 σ28 =>
    some (v28, σ28))
    else (bv (fX10_handsAll 137 104 σ16 (0 : Int32) (1 : Int32)) fun σ17 =>
    bd (fX10_comesAll σ17) fun v18 σ18 =>
    if v18 = 0 then (bv (fX10_handsAll 137 104 σ18 (0 : Int32) (0 : Int32)) fun σ25 =>
    bd (fX10_fails σ25 (2 : Int32)) fun v26 σ26 =>
    some (v26, σ26))
    else (bv (fX10_handsAll 138 104 σ18 (0 : Int32) (1 : Int32)) fun σ19 =>
    bv (fX10_handsAll 137 104 σ19 (0 : Int32) (0 : Int32)) fun σ20 =>
    bv (fX10_remembers σ20) fun σ21 =>
    bv (fX10_handsAll 138 104 σ21 (0 : Int32) (0 : Int32)) fun σ22 =>
    lt (mst σ22 124 0 (0 : Int32)) fun σ23 =>
    bv (fX10_begins σ23) fun σ24 =>
    some (σ24 124 54, σ24)))
def fX10_errorPosition  (σ : Mem) : Option (Int32 × Mem) :=
    if 0 ≤ (σ 124 55) then (lt (mst σ 124 0 (0 : Int32)) fun σ3 =>
    some (σ3 124 55, σ3))
    else (bd (fX10_fails σ (1 : Int32)) fun v4 σ4 =>
    some (v4, σ4))
def fX10_tells  (σ : Mem) (a1 : Int32) : Option (Mem) :=
    ck (σ 124 57) 24 (lt (mst σ 154 (σ 124 57).toNatClampNeg a1) fun σ3 =>
    lt (mst σ3 124 57 ((σ3 124 57) + (1 : Int32))) fun σ4 =>
    some σ4)
def fX10_findTold_L117    (σ : Mem) (l1 l2 : Int32) : Option (Mem) :=
    bv (fX10_tells σ ((48 : Int32) + (l2 - l2 / (10 : Int32) * (10 : Int32)))) fun σ12 =>
    bv (fX10_tells σ12 (42 : Int32)) fun σ13 =>
    ck l1 20 (bv (fX10_tells σ13 ((48 : Int32) + (σ13 130 l1.toNatClampNeg))) fun σ14 =>
    bv (fX10_tells σ14 (59 : Int32)) fun σ15 =>
    some σ15)
def fX10_findTold_L100    (σ : Mem) (l1 l2 : Int32) : Option (Mem) :=
    if l2 ≤ (9 : Int32) then (fX10_findTold_L117  σ l1 l2)
    else (bv (fX10_tells σ ((48 : Int32) + (l2 / (10 : Int32)))) fun σ16 =>
    fX10_findTold_L117  σ16 l1 l2)
def fX10_findTold_L84    (σ : Mem) (l1 s0 : Int32) : Option (Mem) :=
    ck l1 20 (if 0 ≤ (σ 129 l1.toNatClampNeg) then (fX10_findTold_L100  σ l1 s0)
    else (bv (fX10_tells σ (45 : Int32)) fun σ17 =>
    fX10_findTold_L100  σ17 l1 s0))
def fX10_findTold_L47  (r20 : Mem → Int32 → Int32 → Option (Mem))  (σ : Mem) (l1 l2 : Int32) : Option (Mem) :=
    r20 σ l1 (l2 + (1 : Int32))
def fX10_findTold_B20   (r20 : Mem → Int32 → Int32 → Option (Mem)) (σ : Mem) (l1 l2 : Int32) : Option (Mem) :=
    if (10 : Int32) ≤ l2 then (bv (fX10_tells σ (58 : Int32)) fun σ18 =>
    ck l1 20 (if 0 ≤ (σ18 129 l1.toNatClampNeg) then (ck l1 20 (fX10_findTold_L84  σ18 l1 (σ18 129 l1.toNatClampNeg)))
    else (ck l1 20 (fX10_findTold_L84  σ18 l1 (-(σ18 129 l1.toNatClampNeg))))))
    else (ck l1 20 (bd (fX10_has σ (σ 128 l1.toNatClampNeg) l2) fun v19 σ19 =>
    if v19 = 0 then (fX10_findTold_L47 r20 σ19 l1 l2)
    else (bv (fX10_tells σ19 ((48 : Int32) + l2)) fun σ20 =>
    fX10_findTold_L47 r20 σ20 l1 l2)))
def fX10_findTold_L20   (n : Nat) : Mem → Int32 → Int32 → Option (Mem) := fx (fX10_findTold_B20 ) (fun _ _ _ => none) n
def fX10_findTold  (σ : Mem) (a1 : Int32) : Option (Mem) :=
    lt (mst σ 124 57 (0 : Int32)) fun σ21 =>
    ck a1 20 (bv (fX10_tells σ21 ((97 : Int32) + (σ21 127 a1.toNatClampNeg))) fun σ22 =>
    fX10_findTold_L20  FU σ22 a1 (0 : Int32))
def fX10_describe  (σ : Mem) (a1 a2 : Int32) : Option (Int32 × Mem) :=
    bd (fX10_isConstraint σ a1) fun v7 σ7 =>
    if v7 = 0 then (bd (fX10_fails σ7 (1 : Int32)) fun v12 σ12 =>
    some (v12, σ12))
    else (bv (fX10_findTold σ7 a1) fun σ8 =>
    bd (fX10_isBetween σ8 a2 (-1 : Int32) ((σ8 124 57) - (1 : Int32))) fun v9 σ9 =>
    if v9 = 0 then (bd (fX10_fails σ9 (2 : Int32)) fun v11 σ11 =>
    some (v11, σ11))
    else (lt (mst σ9 124 0 (0 : Int32)) fun σ10 =>
    if 0 ≤ a2 then (ck a2 24 (some (σ10 154 a2.toNatClampNeg, σ10)))
    else (some (σ10 124 57, σ10))))
def fX10_undo  (σ : Mem) : Option (Int32 × Mem) :=
    if (σ 124 28) = 0 then (bd (fX10_fails σ (1 : Int32)) fun v10 σ10 =>
    some (v10, σ10))
    else (lt (mst σ 124 0 (0 : Int32)) fun σ6 =>
    lt (mst σ6 124 28 ((σ6 124 28) - (1 : Int32))) fun σ7 =>
    bv (fX10_handsAll 135 832 σ7 ((104 : Int32) * (σ7 124 28)) (0 : Int32)) fun σ8 =>
    bv (fX10_begins σ8) fun σ9 =>
    some (σ9 124 28, σ9))
def fX10_save  (σ : Mem) : Option (Int32 × Mem) :=
    lt (mst σ 124 0 (0 : Int32)) fun σ4 =>
    lt (mst σ4 124 30 (1 : Int32)) fun σ5 =>
    bv (fX10_handsAll 136 104 σ5 (0 : Int32) (1 : Int32)) fun σ6 =>
    some (σ6 124 7, σ6)
def fX10_restore  (σ : Mem) : Option (Int32 × Mem) :=
    if (σ 124 30) = 0 then (bd (fX10_fails σ (1 : Int32)) fun v10 σ10 =>
    some (v10, σ10))
    else (lt (mst σ 124 0 (0 : Int32)) fun σ6 =>
    bv (fX10_handsAll 136 104 σ6 (0 : Int32) (0 : Int32)) fun σ7 =>
    lt (mst σ7 124 28 (0 : Int32)) fun σ8 =>
    bv (fX10_begins σ8) fun σ9 =>
    some (σ9 124 7, σ9))
