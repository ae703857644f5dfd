theorem to_0 {x : Int32} (h : ¬ x = Int32.ofNat 0) : ∀ j : Nat, j ≤ 0 → ¬ x = Int32.ofNat j := fun j hj => by rw [Nat.le_zero.mp hj]; exact h
theorem to_s {x : Int32} {n : Nat} (h : ∀ j : Nat, j ≤ n → ¬ x = Int32.ofNat j) (h1 : ¬ x = Int32.ofNat (n + 1)) : ∀ j : Nat, j ≤ n + 1 → ¬ x = Int32.ofNat j := fun j hj => by
  rcases Nat.lt_or_ge j (n + 1) with q | q
  · exact h j (Nat.le_of_lt_succ q)
  · rw [Nat.le_antisymm hj q]; exact h1
/-! THE LAW'S LOOP (by program) -/
def fL_law_L2416 (L : Nat) (xs : Nat → Int32) (r28 : Mem → Int32 → Option Unit) (σ : Mem) (l5 : Int32) : Option Unit :=
    r28 σ (l5 + (5 : Int32))
def fL_law_L2413 (L : Nat) (xs : Nat → Int32) (r28 : Mem → Int32 → Option Unit) (σ : Mem) (l5 : Int32) : Option Unit :=
    fL_law_L2416 L xs r28 σ l5
def fL_law_L2356 (L : Nat) (xs : Nat → Int32) (r28 : Mem → Int32 → Option Unit) (σ : Mem) (l5 : Int32) : Option Unit :=
    fL_law_L2416 L xs r28 σ l5
def fL_law_L2312 (L : Nat) (xs : Nat → Int32) (r28 : Mem → Int32 → Option Unit) (σ : Mem) (l5 : Int32) : Option Unit :=
    fL_law_L2416 L xs r28 σ l5
def fL_law_L2244 (L : Nat) (xs : Nat → Int32) (r28 : Mem → Int32 → Option Unit) (σ : Mem) (l5 : Int32) : Option Unit :=
    fL_law_L2416 L xs r28 σ l5
def fL_law_L2200 (L : Nat) (xs : Nat → Int32) (r28 : Mem → Int32 → Option Unit) (σ : Mem) (l5 : Int32) : Option Unit :=
    fL_law_L2416 L xs r28 σ l5
def fL_law_L2156 (L : Nat) (xs : Nat → Int32) (r28 : Mem → Int32 → Option Unit) (σ : Mem) (l5 : Int32) : Option Unit :=
    fL_law_L2416 L xs r28 σ l5
def fL_law_L2098 (L : Nat) (xs : Nat → Int32) (r28 : Mem → Int32 → Option Unit) (σ : Mem) (l5 : Int32) : Option Unit :=
    fL_law_L2416 L xs r28 σ l5
def fL_law_L2054 (L : Nat) (xs : Nat → Int32) (r28 : Mem → Int32 → Option Unit) (σ : Mem) (l5 : Int32) : Option Unit :=
    fL_law_L2416 L xs r28 σ l5
def fL_law_L2010 (L : Nat) (xs : Nat → Int32) (r28 : Mem → Int32 → Option Unit) (σ : Mem) (l5 : Int32) : Option Unit :=
    fL_law_L2416 L xs r28 σ l5
def fL_law_L1954 (L : Nat) (xs : Nat → Int32) (r28 : Mem → Int32 → Option Unit) (σ : Mem) (l5 : Int32) : Option Unit :=
    fL_law_L2416 L xs r28 σ l5
def fL_law_L1910 (L : Nat) (xs : Nat → Int32) (r28 : Mem → Int32 → Option Unit) (σ : Mem) (l5 : Int32) : Option Unit :=
    fL_law_L2416 L xs r28 σ l5
def fL_law_L1866 (L : Nat) (xs : Nat → Int32) (r28 : Mem → Int32 → Option Unit) (σ : Mem) (l5 : Int32) : Option Unit :=
    fL_law_L2416 L xs r28 σ l5
def fL_law_L1801 (L : Nat) (xs : Nat → Int32) (r28 : Mem → Int32 → Option Unit) (σ : Mem) (l5 : Int32) : Option Unit :=
    fL_law_L2416 L xs r28 σ l5
def fL_law_L1720 (L : Nat) (xs : Nat → Int32) (r28 : Mem → Int32 → Option Unit) (σ : Mem) (l5 : Int32) : Option Unit :=
    fL_law_L2416 L xs r28 σ l5
def fL_law_L1638 (L : Nat) (xs : Nat → Int32) (r28 : Mem → Int32 → Option Unit) (σ : Mem) (l5 : Int32) : Option Unit :=
    fL_law_L2416 L xs r28 σ l5
def fL_law_L1582 (L : Nat) (xs : Nat → Int32) (r28 : Mem → Int32 → Option Unit) (σ : Mem) (l5 : Int32) : Option Unit :=
    fL_law_L2416 L xs r28 σ l5
def fL_law_L1525 (L : Nat) (xs : Nat → Int32) (r28 : Mem → Int32 → Option Unit) (σ : Mem) (l5 : Int32) : Option Unit :=
    fL_law_L2416 L xs r28 σ l5
def fL_law_L1519 (L : Nat) (xs : Nat → Int32) (r28 : Mem → Int32 → Option Unit) (σ : Mem) (l5 s0 s1 : Int32) : Option Unit :=
    if s0 = s1 then (fL_law_L1525 L xs r28 σ l5)
    else (none)
def fL_law_L1450 (L : Nat) (xs : Nat → Int32) (r28 : Mem → Int32 → Option Unit) (σ : Mem) (l5 : Int32) : Option Unit :=
    fL_law_L2416 L xs r28 σ l5
def fL_law_L1406 (L : Nat) (xs : Nat → Int32) (r28 : Mem → Int32 → Option Unit) (σ : Mem) (l5 : Int32) : Option Unit :=
    fL_law_L2416 L xs r28 σ l5
def fL_law_L1333 (L : Nat) (xs : Nat → Int32) (r28 : Mem → Int32 → Option Unit) (σ : Mem) (l5 s0 s2 : Int32) : Option Unit :=
    bd (fX10_moves σ s2) fun v126 σ126 =>
    if s0 = v126 then (fL_law_L2416 L xs r28 σ126 l5)
    else (none)
def fL_law_L1315 (L : Nat) (xs : Nat → Int32) (r28 : Mem → Int32 → Option Unit) (σ : Mem) (l5 s1 : Int32) : Option Unit :=
    bd (fX9_moves σ s1) fun v127 σ127 =>
    ck (l5 + (1 : Int32)) L (if (xs (l5 + (1 : Int32)).toNatClampNeg) = 0 then (fL_law_L1333 L xs r28 σ127 l5 v127 (0 : Int32))
    else (fL_law_L1333 L xs r28 σ127 l5 v127 (1 : Int32)))
def fL_law_L1297 (L : Nat) (xs : Nat → Int32) (r28 : Mem → Int32 → Option Unit) (σ : Mem) (l5 : Int32) : Option Unit :=
    fL_law_L2416 L xs r28 σ l5
def fL_law_L1241 (L : Nat) (xs : Nat → Int32) (r28 : Mem → Int32 → Option Unit) (σ : Mem) (l5 : Int32) : Option Unit :=
    fL_law_L2416 L xs r28 σ l5
def fL_law_L1185 (L : Nat) (xs : Nat → Int32) (r28 : Mem → Int32 → Option Unit) (σ : Mem) (l5 : Int32) : Option Unit :=
    fL_law_L2416 L xs r28 σ l5
def fL_law_L1129 (L : Nat) (xs : Nat → Int32) (r28 : Mem → Int32 → Option Unit) (σ : Mem) (l5 : Int32) : Option Unit :=
    fL_law_L2416 L xs r28 σ l5
def fL_law_L1060 (L : Nat) (xs : Nat → Int32) (r28 : Mem → Int32 → Option Unit) (σ : Mem) (l5 : Int32) : Option Unit :=
    fL_law_L2416 L xs r28 σ l5
def fL_law_L1004 (L : Nat) (xs : Nat → Int32) (r28 : Mem → Int32 → Option Unit) (σ : Mem) (l5 : Int32) : Option Unit :=
    fL_law_L2416 L xs r28 σ l5
def fL_law_L960 (L : Nat) (xs : Nat → Int32) (r28 : Mem → Int32 → Option Unit) (σ : Mem) (l5 : Int32) : Option Unit :=
    fL_law_L2416 L xs r28 σ l5
def fL_law_L927 (L : Nat) (xs : Nat → Int32) (r28 : Mem → Int32 → Option Unit) (σ : Mem) (l5 l6 s1 s2 : Int32) : Option Unit :=
    bd (fX10_violation σ s1 s2) fun v128 σ128 =>
    bd (fX10_thrown σ128) fun v129 σ129 =>
    if v129 = l6 then (if l6 = 0 then (if (σ129 155 0) = v128 then (fL_law_L960 L xs r28 σ129 l5)
    else (none))
    else (fL_law_L960 L xs r28 σ129 l5))
    else (none)
def fL_law_L900 (L : Nat) (xs : Nat → Int32) (r28 : Mem → Int32 → Option Unit) (σ : Mem) (l5 s1 s2 : Int32) : Option Unit :=
    bd (wL_violation σ s1 s2) fun v130 σ130 =>
    ck (l5 + (1 : Int32)) L (ck (l5 + (2 : Int32)) L (if (xs (l5 + (2 : Int32)).toNatClampNeg) = 0 then (fL_law_L927 L xs r28 σ130 l5 v130 (xs (l5 + (1 : Int32)).toNatClampNeg) (0 : Int32))
    else (fL_law_L927 L xs r28 σ130 l5 v130 (xs (l5 + (1 : Int32)).toNatClampNeg) (1 : Int32))))
def fL_law_L850 (L : Nat) (xs : Nat → Int32) (r28 : Mem → Int32 → Option Unit) (σ : Mem) (l5 : Int32) : Option Unit :=
    fL_law_L2416 L xs r28 σ l5
def fL_law_L782 (L : Nat) (xs : Nat → Int32) (r28 : Mem → Int32 → Option Unit) (σ : Mem) (l5 : Int32) : Option Unit :=
    fL_law_L2416 L xs r28 σ l5
def fL_law_L714 (L : Nat) (xs : Nat → Int32) (r28 : Mem → Int32 → Option Unit) (σ : Mem) (l5 : Int32) : Option Unit :=
    fL_law_L2416 L xs r28 σ l5
def fL_law_L658 (L : Nat) (xs : Nat → Int32) (r28 : Mem → Int32 → Option Unit) (σ : Mem) (l5 : Int32) : Option Unit :=
    fL_law_L2416 L xs r28 σ l5
def fL_law_L590 (L : Nat) (xs : Nat → Int32) (r28 : Mem → Int32 → Option Unit) (σ : Mem) (l5 : Int32) : Option Unit :=
    fL_law_L2416 L xs r28 σ l5
def fL_law_L522 (L : Nat) (xs : Nat → Int32) (r28 : Mem → Int32 → Option Unit) (σ : Mem) (l5 : Int32) : Option Unit :=
    fL_law_L2416 L xs r28 σ l5
def fL_law_L466 (L : Nat) (xs : Nat → Int32) (r28 : Mem → Int32 → Option Unit) (σ : Mem) (l5 : Int32) : Option Unit :=
    fL_law_L2416 L xs r28 σ l5
def fL_law_L374 (L : Nat) (xs : Nat → Int32) (r28 : Mem → Int32 → Option Unit) (σ : Mem) (l5 : Int32) : Option Unit :=
    fL_law_L2416 L xs r28 σ l5
def fL_law_L306 (L : Nat) (xs : Nat → Int32) (r28 : Mem → Int32 → Option Unit) (σ : Mem) (l5 : Int32) : Option Unit :=
    fL_law_L2416 L xs r28 σ l5
def fL_case0 (L : Nat) (xs : Nat → Int32) (r28 : Mem → Int32 → Option Unit) (σ : Mem) (l5 : Int32) : Option Unit :=
    bd (fX9_clear σ) fun v131 σ131 =>
    bd (fX10_clear σ131) fun v132 σ132 =>
    if v131 = v132 then (fL_law_L2416 L xs r28 σ132 l5)
    else (none)
def fL_case1 (L : Nat) (xs : Nat → Int32) (r28 : Mem → Int32 → Option Unit) (σ : Mem) (l5 : Int32) : Option Unit :=
    ck (l5 + (1 : Int32)) L (bd (wL_addVariable σ (xs (l5 + (1 : Int32)).toNatClampNeg)) fun v133 σ133 =>
    ck (l5 + (1 : Int32)) L (bd (fX10_addVariable σ133 (xs (l5 + (1 : Int32)).toNatClampNeg)) fun v134 σ134 =>
    bd (fX10_thrown σ134) fun v135 σ135 =>
    if v135 = v133 then (if v133 = 0 then (if (σ135 155 0) = v134 then (fL_law_L306 L xs r28 σ135 l5)
    else (none))
    else (fL_law_L306 L xs r28 σ135 l5))
    else (none)))
def fL_case2 (L : Nat) (xs : Nat → Int32) (r28 : Mem → Int32 → Option Unit) (σ : Mem) (l5 : Int32) : Option Unit :=
    ck (l5 + (1 : Int32)) L (ck (l5 + (2 : Int32)) L (bd (wL_setDomain σ (xs (l5 + (1 : Int32)).toNatClampNeg) (xs (l5 + (2 : Int32)).toNatClampNeg)) fun v136 σ136 =>
    ck (l5 + (1 : Int32)) L (ck (l5 + (2 : Int32)) L (bd (fX10_setDomain σ136 (xs (l5 + (1 : Int32)).toNatClampNeg) (xs (l5 + (2 : Int32)).toNatClampNeg)) fun v137 σ137 =>
    bd (fX10_thrown σ137) fun v138 σ138 =>
    if v138 = v136 then (if v136 = 0 then (if (σ138 155 0) = v137 then (fL_law_L374 L xs r28 σ138 l5)
    else (none))
    else (fL_law_L374 L xs r28 σ138 l5))
    else (none)))))
def fL_case3 (L : Nat) (xs : Nat → Int32) (r28 : Mem → Int32 → Option Unit) (σ : Mem) (l5 : Int32) : Option Unit :=
    ck (l5 + (1 : Int32)) L (ck (l5 + (2 : Int32)) L (ck (l5 + (3 : Int32)) L (ck (l5 + (4 : Int32)) L (bd (wL_addConstraint σ (xs (l5 + (1 : Int32)).toNatClampNeg) (xs (l5 + (2 : Int32)).toNatClampNeg) (xs (l5 + (3 : Int32)).toNatClampNeg) (xs (l5 + (4 : Int32)).toNatClampNeg)) fun v139 σ139 =>
    ck (l5 + (1 : Int32)) L (ck (l5 + (2 : Int32)) L (ck (l5 + (3 : Int32)) L (ck (l5 + (4 : Int32)) L (bd (fX10_addConstraint σ139 (xs (l5 + (1 : Int32)).toNatClampNeg) (xs (l5 + (2 : Int32)).toNatClampNeg) (xs (l5 + (3 : Int32)).toNatClampNeg) (xs (l5 + (4 : Int32)).toNatClampNeg)) fun v140 σ140 =>
    bd (fX10_thrown σ140) fun v141 σ141 =>
    if v141 = v139 then (if v139 = 0 then (if (σ141 155 0) = v140 then (fL_law_L466 L xs r28 σ141 l5)
    else (none))
    else (fL_law_L466 L xs r28 σ141 l5))
    else (none)))))))))
def fL_case4 (L : Nat) (xs : Nat → Int32) (r28 : Mem → Int32 → Option Unit) (σ : Mem) (l5 : Int32) : Option Unit :=
    ck (l5 + (1 : Int32)) L (bd (wL_removeConstraint σ (xs (l5 + (1 : Int32)).toNatClampNeg)) fun v142 σ142 =>
    ck (l5 + (1 : Int32)) L (bd (fX10_removeConstraint σ142 (xs (l5 + (1 : Int32)).toNatClampNeg)) fun v143 σ143 =>
    bd (fX10_thrown σ143) fun v144 σ144 =>
    if v144 = v142 then (if v142 = 0 then (if (σ144 155 0) = v143 then (fL_law_L522 L xs r28 σ144 l5)
    else (none))
    else (fL_law_L522 L xs r28 σ144 l5))
    else (none)))
def fL_case5 (L : Nat) (xs : Nat → Int32) (r28 : Mem → Int32 → Option Unit) (σ : Mem) (l5 : Int32) : Option Unit :=
    ck (l5 + (1 : Int32)) L (ck (l5 + (2 : Int32)) L (bd (wL_setWeight σ (xs (l5 + (1 : Int32)).toNatClampNeg) (xs (l5 + (2 : Int32)).toNatClampNeg)) fun v145 σ145 =>
    ck (l5 + (1 : Int32)) L (ck (l5 + (2 : Int32)) L (bd (fX10_setWeight σ145 (xs (l5 + (1 : Int32)).toNatClampNeg) (xs (l5 + (2 : Int32)).toNatClampNeg)) fun v146 σ146 =>
    bd (fX10_thrown σ146) fun v147 σ147 =>
    if v147 = v145 then (if v145 = 0 then (if (σ147 155 0) = v146 then (fL_law_L590 L xs r28 σ147 l5)
    else (none))
    else (fL_law_L590 L xs r28 σ147 l5))
    else (none)))))
def fL_case6 (L : Nat) (xs : Nat → Int32) (r28 : Mem → Int32 → Option Unit) (σ : Mem) (l5 : Int32) : Option Unit :=
    ck (l5 + (1 : Int32)) L (ck (l5 + (2 : Int32)) L (bd (wL_setValue σ (xs (l5 + (1 : Int32)).toNatClampNeg) (xs (l5 + (2 : Int32)).toNatClampNeg)) fun v148 σ148 =>
    ck (l5 + (1 : Int32)) L (ck (l5 + (2 : Int32)) L (bd (fX10_setValue σ148 (xs (l5 + (1 : Int32)).toNatClampNeg) (xs (l5 + (2 : Int32)).toNatClampNeg)) fun v149 σ149 =>
    bd (fX10_thrown σ149) fun v150 σ150 =>
    if v150 = v148 then (if v148 = 0 then (if (σ150 155 0) = v149 then (fL_law_L658 L xs r28 σ150 l5)
    else (none))
    else (fL_law_L658 L xs r28 σ150 l5))
    else (none)))))
def fL_case7 (L : Nat) (xs : Nat → Int32) (r28 : Mem → Int32 → Option Unit) (σ : Mem) (l5 : Int32) : Option Unit :=
    ck (l5 + (1 : Int32)) L (bd (wL_count σ (xs (l5 + (1 : Int32)).toNatClampNeg)) fun v151 σ151 =>
    ck (l5 + (1 : Int32)) L (bd (fX10_count σ151 (xs (l5 + (1 : Int32)).toNatClampNeg)) fun v152 σ152 =>
    bd (fX10_thrown σ152) fun v153 σ153 =>
    if v153 = v151 then (if v151 = 0 then (if (σ153 155 0) = v152 then (fL_law_L714 L xs r28 σ153 l5)
    else (none))
    else (fL_law_L714 L xs r28 σ153 l5))
    else (none)))
def fL_case8 (L : Nat) (xs : Nat → Int32) (r28 : Mem → Int32 → Option Unit) (σ : Mem) (l5 : Int32) : Option Unit :=
    ck (l5 + (1 : Int32)) L (ck (l5 + (2 : Int32)) L (bd (wL_constraint σ (xs (l5 + (1 : Int32)).toNatClampNeg) (xs (l5 + (2 : Int32)).toNatClampNeg)) fun v154 σ154 =>
    ck (l5 + (1 : Int32)) L (ck (l5 + (2 : Int32)) L (bd (fX10_constraint σ154 (xs (l5 + (1 : Int32)).toNatClampNeg) (xs (l5 + (2 : Int32)).toNatClampNeg)) fun v155 σ155 =>
    bd (fX10_thrown σ155) fun v156 σ156 =>
    if v156 = v154 then (if v154 = 0 then (if (σ156 155 0) = v155 then (fL_law_L782 L xs r28 σ156 l5)
    else (none))
    else (fL_law_L782 L xs r28 σ156 l5))
    else (none)))))
def fL_case9 (L : Nat) (xs : Nat → Int32) (r28 : Mem → Int32 → Option Unit) (σ : Mem) (l5 : Int32) : Option Unit :=
    ck (l5 + (1 : Int32)) L (ck (l5 + (2 : Int32)) L (bd (wL_variable σ (xs (l5 + (1 : Int32)).toNatClampNeg) (xs (l5 + (2 : Int32)).toNatClampNeg)) fun v157 σ157 =>
    ck (l5 + (1 : Int32)) L (ck (l5 + (2 : Int32)) L (bd (fX10_variable σ157 (xs (l5 + (1 : Int32)).toNatClampNeg) (xs (l5 + (2 : Int32)).toNatClampNeg)) fun v158 σ158 =>
    bd (fX10_thrown σ158) fun v159 σ159 =>
    if v159 = v157 then (if v157 = 0 then (if (σ159 155 0) = v158 then (fL_law_L850 L xs r28 σ159 l5)
    else (none))
    else (fL_law_L850 L xs r28 σ159 l5))
    else (none)))))
def fL_case10 (L : Nat) (xs : Nat → Int32) (r28 : Mem → Int32 → Option Unit) (σ : Mem) (l5 : Int32) : Option Unit :=
    bd (fX9_cost σ) fun v160 σ160 =>
    bd (fX10_cost σ160) fun v161 σ161 =>
    if v160 = v161 then (fL_law_L2416 L xs r28 σ161 l5)
    else (none)
def fL_case11 (L : Nat) (xs : Nat → Int32) (r28 : Mem → Int32 → Option Unit) (σ : Mem) (l5 : Int32) : Option Unit :=
    bd (fX9_bestCost σ) fun v162 σ162 =>
    bd (fX10_bestCost σ162) fun v163 σ163 =>
    if v162 = v163 then (fL_law_L2416 L xs r28 σ163 l5)
    else (none)
def fL_case12 (L : Nat) (xs : Nat → Int32) (r28 : Mem → Int32 → Option Unit) (σ : Mem) (l5 : Int32) : Option Unit :=
    ck (l5 + (1 : Int32)) L (ck (l5 + (2 : Int32)) L (if (xs (l5 + (2 : Int32)).toNatClampNeg) = 0 then (fL_law_L900 L xs r28 σ l5 (xs (l5 + (1 : Int32)).toNatClampNeg) (0 : Int32))
    else (fL_law_L900 L xs r28 σ l5 (xs (l5 + (1 : Int32)).toNatClampNeg) (1 : Int32))))
def fL_case13 (L : Nat) (xs : Nat → Int32) (r28 : Mem → Int32 → Option Unit) (σ : Mem) (l5 : Int32) : Option Unit :=
    bd (wL_mostBlamed σ) fun v164 σ164 =>
    bd (fX10_mostBlamed σ164) fun v165 σ165 =>
    bd (fX10_thrown σ165) fun v166 σ166 =>
    if v166 = v164 then (if v164 = 0 then (if (σ166 155 0) = v165 then (fL_law_L1004 L xs r28 σ166 l5)
    else (none))
    else (fL_law_L1004 L xs r28 σ166 l5))
    else (none)
def fL_case14 (L : Nat) (xs : Nat → Int32) (r28 : Mem → Int32 → Option Unit) (σ : Mem) (l5 : Int32) : Option Unit :=
    ck (l5 + (1 : Int32)) L (bd (wL_relief σ (xs (l5 + (1 : Int32)).toNatClampNeg)) fun v167 σ167 =>
    ck (l5 + (1 : Int32)) L (bd (fX10_relief σ167 (xs (l5 + (1 : Int32)).toNatClampNeg)) fun v168 σ168 =>
    bd (fX10_thrown σ168) fun v169 σ169 =>
    if v169 = v167 then (if v167 = 0 then (if (σ169 155 0) = v168 then (fL_law_L1060 L xs r28 σ169 l5)
    else (none))
    else (fL_law_L1060 L xs r28 σ169 l5))
    else (none)))
def fL_case15 (L : Nat) (xs : Nat → Int32) (r28 : Mem → Int32 → Option Unit) (σ : Mem) (l5 : Int32) : Option Unit :=
    bd (fX9_takeBest σ) fun v170 σ170 =>
    bd (fX10_takeBest σ170) fun v171 σ171 =>
    if v170 = v171 then (fL_law_L2416 L xs r28 σ171 l5)
    else (none)
def fL_case16 (L : Nat) (xs : Nat → Int32) (r28 : Mem → Int32 → Option Unit) (σ : Mem) (l5 : Int32) : Option Unit :=
    ck (l5 + (1 : Int32)) L (bd (wL_setNeighborhood σ (xs (l5 + (1 : Int32)).toNatClampNeg)) fun v172 σ172 =>
    ck (l5 + (1 : Int32)) L (bd (fX10_setNeighborhood σ172 (xs (l5 + (1 : Int32)).toNatClampNeg)) fun v173 σ173 =>
    bd (fX10_thrown σ173) fun v174 σ174 =>
    if v174 = v172 then (if v172 = 0 then (if (σ174 155 0) = v173 then (fL_law_L1129 L xs r28 σ174 l5)
    else (none))
    else (fL_law_L1129 L xs r28 σ174 l5))
    else (none)))
def fL_case17 (L : Nat) (xs : Nat → Int32) (r28 : Mem → Int32 → Option Unit) (σ : Mem) (l5 : Int32) : Option Unit :=
    ck (l5 + (1 : Int32)) L (bd (wL_setTenure σ (xs (l5 + (1 : Int32)).toNatClampNeg)) fun v175 σ175 =>
    ck (l5 + (1 : Int32)) L (bd (fX10_setTenure σ175 (xs (l5 + (1 : Int32)).toNatClampNeg)) fun v176 σ176 =>
    bd (fX10_thrown σ176) fun v177 σ177 =>
    if v177 = v175 then (if v175 = 0 then (if (σ177 155 0) = v176 then (fL_law_L1185 L xs r28 σ177 l5)
    else (none))
    else (fL_law_L1185 L xs r28 σ177 l5))
    else (none)))
def fL_case18 (L : Nat) (xs : Nat → Int32) (r28 : Mem → Int32 → Option Unit) (σ : Mem) (l5 : Int32) : Option Unit :=
    ck (l5 + (1 : Int32)) L (bd (wL_setPatience σ (xs (l5 + (1 : Int32)).toNatClampNeg)) fun v178 σ178 =>
    ck (l5 + (1 : Int32)) L (bd (fX10_setPatience σ178 (xs (l5 + (1 : Int32)).toNatClampNeg)) fun v179 σ179 =>
    bd (fX10_thrown σ179) fun v180 σ180 =>
    if v180 = v178 then (if v178 = 0 then (if (σ180 155 0) = v179 then (fL_law_L1241 L xs r28 σ180 l5)
    else (none))
    else (fL_law_L1241 L xs r28 σ180 l5))
    else (none)))
def fL_case19 (L : Nat) (xs : Nat → Int32) (r28 : Mem → Int32 → Option Unit) (σ : Mem) (l5 : Int32) : Option Unit :=
    ck (l5 + (1 : Int32)) L (bd (wL_setSeed σ (xs (l5 + (1 : Int32)).toNatClampNeg)) fun v181 σ181 =>
    ck (l5 + (1 : Int32)) L (bd (fX10_setSeed σ181 (xs (l5 + (1 : Int32)).toNatClampNeg)) fun v182 σ182 =>
    bd (fX10_thrown σ182) fun v183 σ183 =>
    if v183 = v181 then (if v181 = 0 then (if (σ183 155 0) = v182 then (fL_law_L1297 L xs r28 σ183 l5)
    else (none))
    else (fL_law_L1297 L xs r28 σ183 l5))
    else (none)))
def fL_case20 (L : Nat) (xs : Nat → Int32) (r28 : Mem → Int32 → Option Unit) (σ : Mem) (l5 : Int32) : Option Unit :=
    ck (l5 + (1 : Int32)) L (if (xs (l5 + (1 : Int32)).toNatClampNeg) = 0 then (fL_law_L1315 L xs r28 σ l5 (0 : Int32))
    else (fL_law_L1315 L xs r28 σ l5 (1 : Int32)))
def fL_case21 (L : Nat) (xs : Nat → Int32) (r28 : Mem → Int32 → Option Unit) (σ : Mem) (l5 : Int32) : Option Unit :=
    ck (l5 + (1 : Int32)) L (ck (l5 + (2 : Int32)) L (bd (wL_move σ (xs (l5 + (1 : Int32)).toNatClampNeg) (xs (l5 + (2 : Int32)).toNatClampNeg)) fun v184 σ184 =>
    ck (l5 + (1 : Int32)) L (ck (l5 + (2 : Int32)) L (bd (fX10_move σ184 (xs (l5 + (1 : Int32)).toNatClampNeg) (xs (l5 + (2 : Int32)).toNatClampNeg)) fun v185 σ185 =>
    bd (fX10_thrown σ185) fun v186 σ186 =>
    if v186 = v184 then (if v184 = 0 then (if (σ186 155 0) = v185 then (fL_law_L1406 L xs r28 σ186 l5)
    else (none))
    else (fL_law_L1406 L xs r28 σ186 l5))
    else (none)))))
def fL_case22 (L : Nat) (xs : Nat → Int32) (r28 : Mem → Int32 → Option Unit) (σ : Mem) (l5 : Int32) : Option Unit :=
    bd (wL_nextMove σ) fun v187 σ187 =>
    bd (fX10_nextMove σ187) fun v188 σ188 =>
    bd (fX10_thrown σ188) fun v189 σ189 =>
    if v189 = v187 then (if v187 = 0 then (if (σ189 155 0) = v188 then (fL_law_L1450 L xs r28 σ189 l5)
    else (none))
    else (fL_law_L1450 L xs r28 σ189 l5))
    else (none)
def fL_case23 (L : Nat) (xs : Nat → Int32) (r28 : Mem → Int32 → Option Unit) (σ : Mem) (l5 : Int32) : Option Unit :=
    ck (l5 + (1 : Int32)) L (ck (l5 + (2 : Int32)) L (bd (wL_isForbidden σ (xs (l5 + (1 : Int32)).toNatClampNeg) (xs (l5 + (2 : Int32)).toNatClampNeg)) fun v190 σ190 =>
    ck (l5 + (1 : Int32)) L (ck (l5 + (2 : Int32)) L (bd (fX10_isForbidden σ190 (xs (l5 + (1 : Int32)).toNatClampNeg) (xs (l5 + (2 : Int32)).toNatClampNeg)) fun v191 σ191 =>
    bd (fX10_thrown σ191) fun v192 σ192 =>
    if v192 = v190 then (if v190 = 0 then (if v191 = 0 then (fL_law_L1519 L xs r28 σ192 l5 (σ192 155 0) (0 : Int32))
    else (fL_law_L1519 L xs r28 σ192 l5 (σ192 155 0) (1 : Int32)))
    else (fL_law_L1525 L xs r28 σ192 l5))
    else (none)))))
def fL_case24 (L : Nat) (xs : Nat → Int32) (r28 : Mem → Int32 → Option Unit) (σ : Mem) (l5 : Int32) : Option Unit :=
    bd (fX9_isLocalOptimum σ) fun v193 σ193 =>
    bd (fX10_isLocalOptimum σ193) fun v194 σ194 =>
    if v193 = v194 then (fL_law_L2416 L xs r28 σ194 l5)
    else (none)
def fL_case25 (L : Nat) (xs : Nat → Int32) (r28 : Mem → Int32 → Option Unit) (σ : Mem) (l5 : Int32) : Option Unit :=
    bd (wL_step σ) fun v195 σ195 =>
    bd (fX10_step σ195) fun v196 σ196 =>
    bd (fX10_thrown σ196) fun v197 σ197 =>
    if v197 = v195 then (if v195 = 0 then (if (σ197 155 0) = v196 then (fL_law_L1582 L xs r28 σ197 l5)
    else (none))
    else (fL_law_L1582 L xs r28 σ197 l5))
    else (none)
def fL_case26 (L : Nat) (xs : Nat → Int32) (r28 : Mem → Int32 → Option Unit) (σ : Mem) (l5 : Int32) : Option Unit :=
    ck (l5 + (1 : Int32)) L (bd (wL_run σ (xs (l5 + (1 : Int32)).toNatClampNeg)) fun v198 σ198 =>
    ck (l5 + (1 : Int32)) L (bd (fX10_run σ198 (xs (l5 + (1 : Int32)).toNatClampNeg)) fun v199 σ199 =>
    bd (fX10_thrown σ199) fun v200 σ200 =>
    if v200 = v198 then (if v198 = 0 then (if (σ200 155 0) = v199 then (fL_law_L1638 L xs r28 σ200 l5)
    else (none))
    else (fL_law_L1638 L xs r28 σ200 l5))
    else (none)))
def fL_case27 (L : Nat) (xs : Nat → Int32) (r28 : Mem → Int32 → Option Unit) (σ : Mem) (l5 : Int32) : Option Unit :=
    bd (fX9_descend σ) fun v201 σ201 =>
    bd (fX10_descend σ201) fun v202 σ202 =>
    if v201 = v202 then (fL_law_L2416 L xs r28 σ202 l5)
    else (none)
def fL_case28 (L : Nat) (xs : Nat → Int32) (r28 : Mem → Int32 → Option Unit) (σ : Mem) (l5 : Int32) : Option Unit :=
    bd (fX9_restart σ) fun v203 σ203 =>
    bd (fX10_restart σ203) fun v204 σ204 =>
    if v203 = v204 then (fL_law_L2416 L xs r28 σ204 l5)
    else (none)
def fL_case29 (L : Nat) (xs : Nat → Int32) (r28 : Mem → Int32 → Option Unit) (σ : Mem) (l5 : Int32) : Option Unit :=
    ck (l5 + (1 : Int32)) L (bd (wL_search σ (xs (l5 + (1 : Int32)).toNatClampNeg)) fun v205 σ205 =>
    ck (l5 + (1 : Int32)) L (bd (fX10_search σ205 (xs (l5 + (1 : Int32)).toNatClampNeg)) fun v206 σ206 =>
    bd (fX10_thrown σ206) fun v207 σ207 =>
    if v207 = v205 then (if v205 = 0 then (if (σ207 155 0) = v206 then (fL_law_L1720 L xs r28 σ207 l5)
    else (none))
    else (fL_law_L1720 L xs r28 σ207 l5))
    else (none)))
def fL_case30 (L : Nat) (xs : Nat → Int32) (r28 : Mem → Int32 → Option Unit) (σ : Mem) (l5 : Int32) : Option Unit :=
    bd (fX9_logSize σ) fun v208 σ208 =>
    bd (fX10_logSize σ208) fun v209 σ209 =>
    if v208 = v209 then (fL_law_L2416 L xs r28 σ209 l5)
    else (none)
def fL_case31 (L : Nat) (xs : Nat → Int32) (r28 : Mem → Int32 → Option Unit) (σ : Mem) (l5 : Int32) : Option Unit :=
    ck (l5 + (1 : Int32)) L (ck (l5 + (2 : Int32)) L (bd (wL_log σ (xs (l5 + (1 : Int32)).toNatClampNeg) (xs (l5 + (2 : Int32)).toNatClampNeg)) fun v210 σ210 =>
    ck (l5 + (1 : Int32)) L (ck (l5 + (2 : Int32)) L (bd (fX10_log σ210 (xs (l5 + (1 : Int32)).toNatClampNeg) (xs (l5 + (2 : Int32)).toNatClampNeg)) fun v211 σ211 =>
    bd (fX10_thrown σ211) fun v212 σ212 =>
    if v212 = v210 then (if v210 = 0 then (if (σ212 155 0) = v211 then (fL_law_L1801 L xs r28 σ212 l5)
    else (none))
    else (fL_law_L1801 L xs r28 σ212 l5))
    else (none)))))
def fL_case32 (L : Nat) (xs : Nat → Int32) (r28 : Mem → Int32 → Option Unit) (σ : Mem) (l5 : Int32) : Option Unit :=
    bd (wL_improvingShare σ) fun v213 σ213 =>
    bd (fX10_improvingShare σ213) fun v214 σ214 =>
    bd (fX10_thrown σ214) fun v215 σ215 =>
    if v215 = v213 then (if v213 = 0 then (if Op.cmpValue (FP.dcmp (cmb (σ215 156 0) (σ215 156 1)) v214) CmpOp.l = 0 then (fL_law_L1866 L xs r28 σ215 l5)
    else none)
    else (fL_law_L1866 L xs r28 σ215 l5))
    else (none)
def fL_case33 (L : Nat) (xs : Nat → Int32) (r28 : Mem → Int32 → Option Unit) (σ : Mem) (l5 : Int32) : Option Unit :=
    bd (wL_optimum σ) fun v216 σ216 =>
    bd (fX10_optimum σ216) fun v217 σ217 =>
    bd (fX10_thrown σ217) fun v218 σ218 =>
    if v218 = v216 then (if v216 = 0 then (if (σ218 155 0) = v217 then (fL_law_L1910 L xs r28 σ218 l5)
    else (none))
    else (fL_law_L1910 L xs r28 σ218 l5))
    else (none)
def fL_case34 (L : Nat) (xs : Nat → Int32) (r28 : Mem → Int32 → Option Unit) (σ : Mem) (l5 : Int32) : Option Unit :=
    bd (wL_optima σ) fun v219 σ219 =>
    bd (fX10_optima σ219) fun v220 σ220 =>
    bd (fX10_thrown σ220) fun v221 σ221 =>
    if v221 = v219 then (if v219 = 0 then (if (σ221 155 0) = v220 then (fL_law_L1954 L xs r28 σ221 l5)
    else (none))
    else (fL_law_L1954 L xs r28 σ221 l5))
    else (none)
def fL_case35 (L : Nat) (xs : Nat → Int32) (r28 : Mem → Int32 → Option Unit) (σ : Mem) (l5 : Int32) : Option Unit :=
    ck (l5 + (1 : Int32)) L (bd (wL_optimalValue σ (xs (l5 + (1 : Int32)).toNatClampNeg)) fun v222 σ222 =>
    ck (l5 + (1 : Int32)) L (bd (fX10_optimalValue σ222 (xs (l5 + (1 : Int32)).toNatClampNeg)) fun v223 σ223 =>
    bd (fX10_thrown σ223) fun v224 σ224 =>
    if v224 = v222 then (if v222 = 0 then (if (σ224 155 0) = v223 then (fL_law_L2010 L xs r28 σ224 l5)
    else (none))
    else (fL_law_L2010 L xs r28 σ224 l5))
    else (none)))
def fL_case36 (L : Nat) (xs : Nat → Int32) (r28 : Mem → Int32 → Option Unit) (σ : Mem) (l5 : Int32) : Option Unit :=
    bd (wL_worst σ) fun v225 σ225 =>
    bd (fX10_worst σ225) fun v226 σ226 =>
    bd (fX10_thrown σ226) fun v227 σ227 =>
    if v227 = v225 then (if v225 = 0 then (if (σ227 155 0) = v226 then (fL_law_L2054 L xs r28 σ227 l5)
    else (none))
    else (fL_law_L2054 L xs r28 σ227 l5))
    else (none)
def fL_case37 (L : Nat) (xs : Nat → Int32) (r28 : Mem → Int32 → Option Unit) (σ : Mem) (l5 : Int32) : Option Unit :=
    bd (wL_unavoidable σ) fun v228 σ228 =>
    bd (fX10_unavoidable σ228) fun v229 σ229 =>
    bd (fX10_thrown σ229) fun v230 σ230 =>
    if v230 = v228 then (if v228 = 0 then (if (σ230 155 0) = v229 then (fL_law_L2098 L xs r28 σ230 l5)
    else (none))
    else (fL_law_L2098 L xs r28 σ230 l5))
    else (none)
def fL_case38 (L : Nat) (xs : Nat → Int32) (r28 : Mem → Int32 → Option Unit) (σ : Mem) (l5 : Int32) : Option Unit :=
    ck (l5 + (1 : Int32)) L (bd (wL_append σ (((xs (l5 + (1 : Int32)).toNatClampNeg).toUInt32 % 65536).toInt32)) fun v231 σ231 =>
    ck (l5 + (1 : Int32)) L (bd (fX10_append σ231 (((xs (l5 + (1 : Int32)).toNatClampNeg).toUInt32 % 65536).toInt32)) fun v232 σ232 =>
    bd (fX10_thrown σ232) fun v233 σ233 =>
    if v233 = v231 then (if v231 = 0 then (if (σ233 155 0) = v232 then (fL_law_L2156 L xs r28 σ233 l5)
    else (none))
    else (fL_law_L2156 L xs r28 σ233 l5))
    else (none)))
def fL_case39 (L : Nat) (xs : Nat → Int32) (r28 : Mem → Int32 → Option Unit) (σ : Mem) (l5 : Int32) : Option Unit :=
    bd (wL_read σ) fun v234 σ234 =>
    bd (fX10_read σ234) fun v235 σ235 =>
    bd (fX10_thrown σ235) fun v236 σ236 =>
    if v236 = v234 then (if v234 = 0 then (if (σ236 155 0) = v235 then (fL_law_L2200 L xs r28 σ236 l5)
    else (none))
    else (fL_law_L2200 L xs r28 σ236 l5))
    else (none)
def fL_case40 (L : Nat) (xs : Nat → Int32) (r28 : Mem → Int32 → Option Unit) (σ : Mem) (l5 : Int32) : Option Unit :=
    bd (wL_errorPosition σ) fun v237 σ237 =>
    bd (fX10_errorPosition σ237) fun v238 σ238 =>
    bd (fX10_thrown σ238) fun v239 σ239 =>
    if v239 = v237 then (if v237 = 0 then (if (σ239 155 0) = v238 then (fL_law_L2244 L xs r28 σ239 l5)
    else (none))
    else (fL_law_L2244 L xs r28 σ239 l5))
    else (none)
def fL_case41 (L : Nat) (xs : Nat → Int32) (r28 : Mem → Int32 → Option Unit) (σ : Mem) (l5 : Int32) : Option Unit :=
    ck (l5 + (1 : Int32)) L (ck (l5 + (2 : Int32)) L (bd (wL_describe σ (xs (l5 + (1 : Int32)).toNatClampNeg) (xs (l5 + (2 : Int32)).toNatClampNeg)) fun v240 σ240 =>
    ck (l5 + (1 : Int32)) L (ck (l5 + (2 : Int32)) L (bd (fX10_describe σ240 (xs (l5 + (1 : Int32)).toNatClampNeg) (xs (l5 + (2 : Int32)).toNatClampNeg)) fun v241 σ241 =>
    bd (fX10_thrown σ241) fun v242 σ242 =>
    if v242 = v240 then (if v240 = 0 then (if (σ242 155 0) = v241 then (fL_law_L2312 L xs r28 σ242 l5)
    else (none))
    else (fL_law_L2312 L xs r28 σ242 l5))
    else (none)))))
def fL_case42 (L : Nat) (xs : Nat → Int32) (r28 : Mem → Int32 → Option Unit) (σ : Mem) (l5 : Int32) : Option Unit :=
    bd (wL_undo σ) fun v243 σ243 =>
    bd (fX10_undo σ243) fun v244 σ244 =>
    bd (fX10_thrown σ244) fun v245 σ245 =>
    if v245 = v243 then (if v243 = 0 then (if (σ245 155 0) = v244 then (fL_law_L2356 L xs r28 σ245 l5)
    else (none))
    else (fL_law_L2356 L xs r28 σ245 l5))
    else (none)
def fL_case43 (L : Nat) (xs : Nat → Int32) (r28 : Mem → Int32 → Option Unit) (σ : Mem) (l5 : Int32) : Option Unit :=
    bd (fX9_save σ) fun v246 σ246 =>
    bd (fX10_save σ246) fun v247 σ247 =>
    if v246 = v247 then (fL_law_L2416 L xs r28 σ247 l5)
    else (none)
def fL_case44 (L : Nat) (xs : Nat → Int32) (r28 : Mem → Int32 → Option Unit) (σ : Mem) (l5 : Int32) : Option Unit :=
    bd (wL_restore σ) fun v248 σ248 =>
    bd (fX10_restore σ248) fun v249 σ249 =>
    bd (fX10_thrown σ249) fun v250 σ250 =>
    if v250 = v248 then (if v248 = 0 then (if (σ250 155 0) = v249 then (fL_law_L2413 L xs r28 σ250 l5)
    else (none))
    else (fL_law_L2413 L xs r28 σ250 l5))
    else (none)
def fL_law_B28 (L : Nat) (xs : Nat → Int32) (r28 : Mem → Int32 → Option Unit) (σ : Mem) (l5 : Int32) : Option Unit :=
    if ((Int32.ofNat L) - (5 : Int32)) < l5 then (some ())
    else (ck l5 L (if ((xs l5.toNatClampNeg) &&& (63 : Int32)) = (0 : Int32) then (fL_case0 L xs r28 σ l5)
    else (if ((xs l5.toNatClampNeg) &&& (63 : Int32)) = (1 : Int32) then (fL_case1 L xs r28 σ l5)
    else (if ((xs l5.toNatClampNeg) &&& (63 : Int32)) = (2 : Int32) then (fL_case2 L xs r28 σ l5)
    else (if ((xs l5.toNatClampNeg) &&& (63 : Int32)) = (3 : Int32) then (fL_case3 L xs r28 σ l5)
    else (if ((xs l5.toNatClampNeg) &&& (63 : Int32)) = (4 : Int32) then (fL_case4 L xs r28 σ l5)
    else (if ((xs l5.toNatClampNeg) &&& (63 : Int32)) = (5 : Int32) then (fL_case5 L xs r28 σ l5)
    else (if ((xs l5.toNatClampNeg) &&& (63 : Int32)) = (6 : Int32) then (fL_case6 L xs r28 σ l5)
    else (if ((xs l5.toNatClampNeg) &&& (63 : Int32)) = (7 : Int32) then (fL_case7 L xs r28 σ l5)
    else (if ((xs l5.toNatClampNeg) &&& (63 : Int32)) = (8 : Int32) then (fL_case8 L xs r28 σ l5)
    else (if ((xs l5.toNatClampNeg) &&& (63 : Int32)) = (9 : Int32) then (fL_case9 L xs r28 σ l5)
    else (if ((xs l5.toNatClampNeg) &&& (63 : Int32)) = (10 : Int32) then (fL_case10 L xs r28 σ l5)
    else (if ((xs l5.toNatClampNeg) &&& (63 : Int32)) = (11 : Int32) then (fL_case11 L xs r28 σ l5)
    else (if ((xs l5.toNatClampNeg) &&& (63 : Int32)) = (12 : Int32) then (fL_case12 L xs r28 σ l5)
    else (if ((xs l5.toNatClampNeg) &&& (63 : Int32)) = (13 : Int32) then (fL_case13 L xs r28 σ l5)
    else (if ((xs l5.toNatClampNeg) &&& (63 : Int32)) = (14 : Int32) then (fL_case14 L xs r28 σ l5)
    else (if ((xs l5.toNatClampNeg) &&& (63 : Int32)) = (15 : Int32) then (fL_case15 L xs r28 σ l5)
    else (if ((xs l5.toNatClampNeg) &&& (63 : Int32)) = (16 : Int32) then (fL_case16 L xs r28 σ l5)
    else (if ((xs l5.toNatClampNeg) &&& (63 : Int32)) = (17 : Int32) then (fL_case17 L xs r28 σ l5)
    else (if ((xs l5.toNatClampNeg) &&& (63 : Int32)) = (18 : Int32) then (fL_case18 L xs r28 σ l5)
    else (if ((xs l5.toNatClampNeg) &&& (63 : Int32)) = (19 : Int32) then (fL_case19 L xs r28 σ l5)
    else (if ((xs l5.toNatClampNeg) &&& (63 : Int32)) = (20 : Int32) then (fL_case20 L xs r28 σ l5)
    else (if ((xs l5.toNatClampNeg) &&& (63 : Int32)) = (21 : Int32) then (fL_case21 L xs r28 σ l5)
    else (if ((xs l5.toNatClampNeg) &&& (63 : Int32)) = (22 : Int32) then (fL_case22 L xs r28 σ l5)
    else (if ((xs l5.toNatClampNeg) &&& (63 : Int32)) = (23 : Int32) then (fL_case23 L xs r28 σ l5)
    else (if ((xs l5.toNatClampNeg) &&& (63 : Int32)) = (24 : Int32) then (fL_case24 L xs r28 σ l5)
    else (if ((xs l5.toNatClampNeg) &&& (63 : Int32)) = (25 : Int32) then (fL_case25 L xs r28 σ l5)
    else (if ((xs l5.toNatClampNeg) &&& (63 : Int32)) = (26 : Int32) then (fL_case26 L xs r28 σ l5)
    else (if ((xs l5.toNatClampNeg) &&& (63 : Int32)) = (27 : Int32) then (fL_case27 L xs r28 σ l5)
    else (if ((xs l5.toNatClampNeg) &&& (63 : Int32)) = (28 : Int32) then (fL_case28 L xs r28 σ l5)
    else (if ((xs l5.toNatClampNeg) &&& (63 : Int32)) = (29 : Int32) then (fL_case29 L xs r28 σ l5)
    else (if ((xs l5.toNatClampNeg) &&& (63 : Int32)) = (30 : Int32) then (fL_case30 L xs r28 σ l5)
    else (if ((xs l5.toNatClampNeg) &&& (63 : Int32)) = (31 : Int32) then (fL_case31 L xs r28 σ l5)
    else (if ((xs l5.toNatClampNeg) &&& (63 : Int32)) = (32 : Int32) then (fL_case32 L xs r28 σ l5)
    else (if ((xs l5.toNatClampNeg) &&& (63 : Int32)) = (33 : Int32) then (fL_case33 L xs r28 σ l5)
    else (if ((xs l5.toNatClampNeg) &&& (63 : Int32)) = (34 : Int32) then (fL_case34 L xs r28 σ l5)
    else (if ((xs l5.toNatClampNeg) &&& (63 : Int32)) = (35 : Int32) then (fL_case35 L xs r28 σ l5)
    else (if ((xs l5.toNatClampNeg) &&& (63 : Int32)) = (36 : Int32) then (fL_case36 L xs r28 σ l5)
    else (if ((xs l5.toNatClampNeg) &&& (63 : Int32)) = (37 : Int32) then (fL_case37 L xs r28 σ l5)
    else (if ((xs l5.toNatClampNeg) &&& (63 : Int32)) = (38 : Int32) then (fL_case38 L xs r28 σ l5)
    else (if ((xs l5.toNatClampNeg) &&& (63 : Int32)) = (39 : Int32) then (fL_case39 L xs r28 σ l5)
    else (if ((xs l5.toNatClampNeg) &&& (63 : Int32)) = (40 : Int32) then (fL_case40 L xs r28 σ l5)
    else (if ((xs l5.toNatClampNeg) &&& (63 : Int32)) = (41 : Int32) then (fL_case41 L xs r28 σ l5)
    else (if ((xs l5.toNatClampNeg) &&& (63 : Int32)) = (42 : Int32) then (fL_case42 L xs r28 σ l5)
    else (if ((xs l5.toNatClampNeg) &&& (63 : Int32)) = (43 : Int32) then (fL_case43 L xs r28 σ l5)
    else (if ((xs l5.toNatClampNeg) &&& (63 : Int32)) = (44 : Int32) then (fL_case44 L xs r28 σ l5)
    else (fL_law_L2416 L xs r28 σ l5)))))))))))))))))))))))))))))))))))))))))))))))
def fL_law_L28 (L : Nat) (xs : Nat → Int32) (n : Nat) : Mem → Int32 → Option Unit := fx (fL_law_B28 L xs) (fun _ _ => none) n
set_option maxHeartbeats 4000000 in
set_option maxRecDepth 100000 in
theorem law_L2416 {l : Launch} {D : va_G} {ad : Nat → Nat} {cy : Nat → ClassId} {b L : Nat} {xs : Nat → Int32} {V : (Array Slot → Prop) → Vt} (hl : l.stackTraces = false) (hI : Inj ad) (A : RgA l D ad cy RL cL_law 9 20 10862 20000 [] (FL ad b L xs) V) {n : Nat} {r28 : Mem → Int32 → Option Unit} (ih28 : ∀ (κ : Nat), κ + 20 * n ≤ 20000 → ∀ (σ : Mem) (l5 : Int32), r28 σ l5 = some () → V pT κ σ 28 [some (.inr 1000), some (.inr 0), some (.inr 124), some (.inr 155), some (.inr 156), some (.inl l5), none, none, none] []) : ∀ (κ : Nat), κ + 20 * n + 16 ≤ 20000 → ∀ (σ : Mem) (l5 : Int32), fL_law_L2416 L xs r28 σ l5 = some () → V pT κ σ 2416 [some (.inr 1000), some (.inr 0), some (.inr 124), some (.inr 155), some (.inr 156), some (.inl l5), none, none, none] [] := by
  have C := rga_C A
  intro κ hκ σ l5 h
  refine rg_iinc (C pT) ic_5 (by decide) dL_law_2416 rfl ?_
  refine rg_goto (C _) (tgt := 28) (by decide) dL_law_2419 ?_
  exact ih28 _ (by omega) _ _ h
set_option maxHeartbeats 4000000 in
set_option maxRecDepth 100000 in
theorem law_L2413 {l : Launch} {D : va_G} {ad : Nat → Nat} {cy : Nat → ClassId} {b L : Nat} {xs : Nat → Int32} {V : (Array Slot → Prop) → Vt} (hl : l.stackTraces = false) (hI : Inj ad) (A : RgA l D ad cy RL cL_law 9 20 10862 20000 [] (FL ad b L xs) V) {n : Nat} {r28 : Mem → Int32 → Option Unit} (ih28 : ∀ (κ : Nat), κ + 20 * n ≤ 20000 → ∀ (σ : Mem) (l5 : Int32), r28 σ l5 = some () → V pT κ σ 28 [some (.inr 1000), some (.inr 0), some (.inr 124), some (.inr 155), some (.inr 156), some (.inl l5), none, none, none] []) : ∀ (κ : Nat), κ + 20 * n + 19 ≤ 20000 → ∀ (σ : Mem) (l5 : Int32), fL_law_L2413 L xs r28 σ l5 = some () → V pT κ σ 2413 [some (.inr 1000), some (.inr 0), some (.inr 124), some (.inr 155), some (.inr 156), some (.inl l5), none, none, none] [] := by
  have C := rga_C A
  have L2416 := law_L2416 hl hI A ih28
  intro κ hκ σ l5 h
  refine rg_goto (C _) (tgt := 2416) (by decide) dL_law_2413 ?_
  exact L2416 _ (by omega) _ _ h
set_option maxHeartbeats 4000000 in
set_option maxRecDepth 100000 in
theorem law_L2356 {l : Launch} {D : va_G} {ad : Nat → Nat} {cy : Nat → ClassId} {b L : Nat} {xs : Nat → Int32} {V : (Array Slot → Prop) → Vt} (hl : l.stackTraces = false) (hI : Inj ad) (A : RgA l D ad cy RL cL_law 9 20 10862 20000 [] (FL ad b L xs) V) {n : Nat} {r28 : Mem → Int32 → Option Unit} (ih28 : ∀ (κ : Nat), κ + 20 * n ≤ 20000 → ∀ (σ : Mem) (l5 : Int32), r28 σ l5 = some () → V pT κ σ 28 [some (.inr 1000), some (.inr 0), some (.inr 124), some (.inr 155), some (.inr 156), some (.inl l5), none, none, none] []) : ∀ (κ : Nat), κ + 20 * n + 19 ≤ 20000 → ∀ (σ : Mem) (l5 : Int32), fL_law_L2356 L xs r28 σ l5 = some () → V pT κ σ 2356 [some (.inr 1000), some (.inr 0), some (.inr 124), some (.inr 155), some (.inr 156), some (.inl l5), none, none, none] [] := by
  have C := rga_C A
  have L2416 := law_L2416 hl hI A ih28
  intro κ hκ σ l5 h
  refine rg_goto (C _) (tgt := 2416) (by decide) dL_law_2356 ?_
  exact L2416 _ (by omega) _ _ h
set_option maxHeartbeats 4000000 in
set_option maxRecDepth 100000 in
theorem law_L2312 {l : Launch} {D : va_G} {ad : Nat → Nat} {cy : Nat → ClassId} {b L : Nat} {xs : Nat → Int32} {V : (Array Slot → Prop) → Vt} (hl : l.stackTraces = false) (hI : Inj ad) (A : RgA l D ad cy RL cL_law 9 20 10862 20000 [] (FL ad b L xs) V) {n : Nat} {r28 : Mem → Int32 → Option Unit} (ih28 : ∀ (κ : Nat), κ + 20 * n ≤ 20000 → ∀ (σ : Mem) (l5 : Int32), r28 σ l5 = some () → V pT κ σ 28 [some (.inr 1000), some (.inr 0), some (.inr 124), some (.inr 155), some (.inr 156), some (.inl l5), none, none, none] []) : ∀ (κ : Nat), κ + 20 * n + 18 ≤ 20000 → ∀ (σ : Mem) (l5 : Int32), fL_law_L2312 L xs r28 σ l5 = some () → V pT κ σ 2312 [some (.inr 1000), some (.inr 0), some (.inr 124), some (.inr 155), some (.inr 156), some (.inl l5), none, none, none] [] := by
  have C := rga_C A
  have L2416 := law_L2416 hl hI A ih28
  intro κ hκ σ l5 h
  refine rg_goto (C _) (tgt := 2416) (by decide) dL_law_2312 ?_
  exact L2416 _ (by omega) _ _ h
set_option maxHeartbeats 4000000 in
set_option maxRecDepth 100000 in
theorem law_L2244 {l : Launch} {D : va_G} {ad : Nat → Nat} {cy : Nat → ClassId} {b L : Nat} {xs : Nat → Int32} {V : (Array Slot → Prop) → Vt} (hl : l.stackTraces = false) (hI : Inj ad) (A : RgA l D ad cy RL cL_law 9 20 10862 20000 [] (FL ad b L xs) V) {n : Nat} {r28 : Mem → Int32 → Option Unit} (ih28 : ∀ (κ : Nat), κ + 20 * n ≤ 20000 → ∀ (σ : Mem) (l5 : Int32), r28 σ l5 = some () → V pT κ σ 28 [some (.inr 1000), some (.inr 0), some (.inr 124), some (.inr 155), some (.inr 156), some (.inl l5), none, none, none] []) : ∀ (κ : Nat), κ + 20 * n + 19 ≤ 20000 → ∀ (σ : Mem) (l5 : Int32), fL_law_L2244 L xs r28 σ l5 = some () → V pT κ σ 2244 [some (.inr 1000), some (.inr 0), some (.inr 124), some (.inr 155), some (.inr 156), some (.inl l5), none, none, none] [] := by
  have C := rga_C A
  have L2416 := law_L2416 hl hI A ih28
  intro κ hκ σ l5 h
  refine rg_goto (C _) (tgt := 2416) (by decide) dL_law_2244 ?_
  exact L2416 _ (by omega) _ _ h
set_option maxHeartbeats 4000000 in
set_option maxRecDepth 100000 in
theorem law_L2200 {l : Launch} {D : va_G} {ad : Nat → Nat} {cy : Nat → ClassId} {b L : Nat} {xs : Nat → Int32} {V : (Array Slot → Prop) → Vt} (hl : l.stackTraces = false) (hI : Inj ad) (A : RgA l D ad cy RL cL_law 9 20 10862 20000 [] (FL ad b L xs) V) {n : Nat} {r28 : Mem → Int32 → Option Unit} (ih28 : ∀ (κ : Nat), κ + 20 * n ≤ 20000 → ∀ (σ : Mem) (l5 : Int32), r28 σ l5 = some () → V pT κ σ 28 [some (.inr 1000), some (.inr 0), some (.inr 124), some (.inr 155), some (.inr 156), some (.inl l5), none, none, none] []) : ∀ (κ : Nat), κ + 20 * n + 19 ≤ 20000 → ∀ (σ : Mem) (l5 : Int32), fL_law_L2200 L xs r28 σ l5 = some () → V pT κ σ 2200 [some (.inr 1000), some (.inr 0), some (.inr 124), some (.inr 155), some (.inr 156), some (.inl l5), none, none, none] [] := by
  have C := rga_C A
  have L2416 := law_L2416 hl hI A ih28
  intro κ hκ σ l5 h
  refine rg_goto (C _) (tgt := 2416) (by decide) dL_law_2200 ?_
  exact L2416 _ (by omega) _ _ h
set_option maxHeartbeats 4000000 in
set_option maxRecDepth 100000 in
theorem law_L2156 {l : Launch} {D : va_G} {ad : Nat → Nat} {cy : Nat → ClassId} {b L : Nat} {xs : Nat → Int32} {V : (Array Slot → Prop) → Vt} (hl : l.stackTraces = false) (hI : Inj ad) (A : RgA l D ad cy RL cL_law 9 20 10862 20000 [] (FL ad b L xs) V) {n : Nat} {r28 : Mem → Int32 → Option Unit} (ih28 : ∀ (κ : Nat), κ + 20 * n ≤ 20000 → ∀ (σ : Mem) (l5 : Int32), r28 σ l5 = some () → V pT κ σ 28 [some (.inr 1000), some (.inr 0), some (.inr 124), some (.inr 155), some (.inr 156), some (.inl l5), none, none, none] []) : ∀ (κ : Nat), κ + 20 * n + 18 ≤ 20000 → ∀ (σ : Mem) (l5 : Int32), fL_law_L2156 L xs r28 σ l5 = some () → V pT κ σ 2156 [some (.inr 1000), some (.inr 0), some (.inr 124), some (.inr 155), some (.inr 156), some (.inl l5), none, none, none] [] := by
  have C := rga_C A
  have L2416 := law_L2416 hl hI A ih28
  intro κ hκ σ l5 h
  refine rg_goto (C _) (tgt := 2416) (by decide) dL_law_2156 ?_
  exact L2416 _ (by omega) _ _ h
set_option maxHeartbeats 4000000 in
set_option maxRecDepth 100000 in
theorem law_L2098 {l : Launch} {D : va_G} {ad : Nat → Nat} {cy : Nat → ClassId} {b L : Nat} {xs : Nat → Int32} {V : (Array Slot → Prop) → Vt} (hl : l.stackTraces = false) (hI : Inj ad) (A : RgA l D ad cy RL cL_law 9 20 10862 20000 [] (FL ad b L xs) V) {n : Nat} {r28 : Mem → Int32 → Option Unit} (ih28 : ∀ (κ : Nat), κ + 20 * n ≤ 20000 → ∀ (σ : Mem) (l5 : Int32), r28 σ l5 = some () → V pT κ σ 28 [some (.inr 1000), some (.inr 0), some (.inr 124), some (.inr 155), some (.inr 156), some (.inl l5), none, none, none] []) : ∀ (κ : Nat), κ + 20 * n + 19 ≤ 20000 → ∀ (σ : Mem) (l5 : Int32), fL_law_L2098 L xs r28 σ l5 = some () → V pT κ σ 2098 [some (.inr 1000), some (.inr 0), some (.inr 124), some (.inr 155), some (.inr 156), some (.inl l5), none, none, none] [] := by
  have C := rga_C A
  have L2416 := law_L2416 hl hI A ih28
  intro κ hκ σ l5 h
  refine rg_goto (C _) (tgt := 2416) (by decide) dL_law_2098 ?_
  exact L2416 _ (by omega) _ _ h
set_option maxHeartbeats 4000000 in
set_option maxRecDepth 100000 in
theorem law_L2054 {l : Launch} {D : va_G} {ad : Nat → Nat} {cy : Nat → ClassId} {b L : Nat} {xs : Nat → Int32} {V : (Array Slot → Prop) → Vt} (hl : l.stackTraces = false) (hI : Inj ad) (A : RgA l D ad cy RL cL_law 9 20 10862 20000 [] (FL ad b L xs) V) {n : Nat} {r28 : Mem → Int32 → Option Unit} (ih28 : ∀ (κ : Nat), κ + 20 * n ≤ 20000 → ∀ (σ : Mem) (l5 : Int32), r28 σ l5 = some () → V pT κ σ 28 [some (.inr 1000), some (.inr 0), some (.inr 124), some (.inr 155), some (.inr 156), some (.inl l5), none, none, none] []) : ∀ (κ : Nat), κ + 20 * n + 19 ≤ 20000 → ∀ (σ : Mem) (l5 : Int32), fL_law_L2054 L xs r28 σ l5 = some () → V pT κ σ 2054 [some (.inr 1000), some (.inr 0), some (.inr 124), some (.inr 155), some (.inr 156), some (.inl l5), none, none, none] [] := by
  have C := rga_C A
  have L2416 := law_L2416 hl hI A ih28
  intro κ hκ σ l5 h
  refine rg_goto (C _) (tgt := 2416) (by decide) dL_law_2054 ?_
  exact L2416 _ (by omega) _ _ h
set_option maxHeartbeats 4000000 in
set_option maxRecDepth 100000 in
theorem law_L2010 {l : Launch} {D : va_G} {ad : Nat → Nat} {cy : Nat → ClassId} {b L : Nat} {xs : Nat → Int32} {V : (Array Slot → Prop) → Vt} (hl : l.stackTraces = false) (hI : Inj ad) (A : RgA l D ad cy RL cL_law 9 20 10862 20000 [] (FL ad b L xs) V) {n : Nat} {r28 : Mem → Int32 → Option Unit} (ih28 : ∀ (κ : Nat), κ + 20 * n ≤ 20000 → ∀ (σ : Mem) (l5 : Int32), r28 σ l5 = some () → V pT κ σ 28 [some (.inr 1000), some (.inr 0), some (.inr 124), some (.inr 155), some (.inr 156), some (.inl l5), none, none, none] []) : ∀ (κ : Nat), κ + 20 * n + 18 ≤ 20000 → ∀ (σ : Mem) (l5 : Int32), fL_law_L2010 L xs r28 σ l5 = some () → V pT κ σ 2010 [some (.inr 1000), some (.inr 0), some (.inr 124), some (.inr 155), some (.inr 156), some (.inl l5), none, none, none] [] := by
  have C := rga_C A
  have L2416 := law_L2416 hl hI A ih28
  intro κ hκ σ l5 h
  refine rg_goto (C _) (tgt := 2416) (by decide) dL_law_2010 ?_
  exact L2416 _ (by omega) _ _ h
set_option maxHeartbeats 4000000 in
set_option maxRecDepth 100000 in
theorem law_L1954 {l : Launch} {D : va_G} {ad : Nat → Nat} {cy : Nat → ClassId} {b L : Nat} {xs : Nat → Int32} {V : (Array Slot → Prop) → Vt} (hl : l.stackTraces = false) (hI : Inj ad) (A : RgA l D ad cy RL cL_law 9 20 10862 20000 [] (FL ad b L xs) V) {n : Nat} {r28 : Mem → Int32 → Option Unit} (ih28 : ∀ (κ : Nat), κ + 20 * n ≤ 20000 → ∀ (σ : Mem) (l5 : Int32), r28 σ l5 = some () → V pT κ σ 28 [some (.inr 1000), some (.inr 0), some (.inr 124), some (.inr 155), some (.inr 156), some (.inl l5), none, none, none] []) : ∀ (κ : Nat), κ + 20 * n + 19 ≤ 20000 → ∀ (σ : Mem) (l5 : Int32), fL_law_L1954 L xs r28 σ l5 = some () → V pT κ σ 1954 [some (.inr 1000), some (.inr 0), some (.inr 124), some (.inr 155), some (.inr 156), some (.inl l5), none, none, none] [] := by
  have C := rga_C A
  have L2416 := law_L2416 hl hI A ih28
  intro κ hκ σ l5 h
  refine rg_goto (C _) (tgt := 2416) (by decide) dL_law_1954 ?_
  exact L2416 _ (by omega) _ _ h
set_option maxHeartbeats 4000000 in
set_option maxRecDepth 100000 in
theorem law_L1910 {l : Launch} {D : va_G} {ad : Nat → Nat} {cy : Nat → ClassId} {b L : Nat} {xs : Nat → Int32} {V : (Array Slot → Prop) → Vt} (hl : l.stackTraces = false) (hI : Inj ad) (A : RgA l D ad cy RL cL_law 9 20 10862 20000 [] (FL ad b L xs) V) {n : Nat} {r28 : Mem → Int32 → Option Unit} (ih28 : ∀ (κ : Nat), κ + 20 * n ≤ 20000 → ∀ (σ : Mem) (l5 : Int32), r28 σ l5 = some () → V pT κ σ 28 [some (.inr 1000), some (.inr 0), some (.inr 124), some (.inr 155), some (.inr 156), some (.inl l5), none, none, none] []) : ∀ (κ : Nat), κ + 20 * n + 19 ≤ 20000 → ∀ (σ : Mem) (l5 : Int32), fL_law_L1910 L xs r28 σ l5 = some () → V pT κ σ 1910 [some (.inr 1000), some (.inr 0), some (.inr 124), some (.inr 155), some (.inr 156), some (.inl l5), none, none, none] [] := by
  have C := rga_C A
  have L2416 := law_L2416 hl hI A ih28
  intro κ hκ σ l5 h
  refine rg_goto (C _) (tgt := 2416) (by decide) dL_law_1910 ?_
  exact L2416 _ (by omega) _ _ h
set_option maxHeartbeats 4000000 in
set_option maxRecDepth 100000 in
theorem law_L1866 {l : Launch} {D : va_G} {ad : Nat → Nat} {cy : Nat → ClassId} {b L : Nat} {xs : Nat → Int32} {V : (Array Slot → Prop) → Vt} (hl : l.stackTraces = false) (hI : Inj ad) (A : RgA l D ad cy RL cL_law 9 20 10862 20000 [] (FL ad b L xs) V) {n : Nat} {r28 : Mem → Int32 → Option Unit} (ih28 : ∀ (κ : Nat), κ + 20 * n ≤ 20000 → ∀ (σ : Mem) (l5 : Int32), r28 σ l5 = some () → V pT κ σ 28 [some (.inr 1000), some (.inr 0), some (.inr 124), some (.inr 155), some (.inr 156), some (.inl l5), none, none, none] []) : ∀ (κ : Nat), κ + 20 * n + 19 ≤ 20000 → ∀ (σ : Mem) (l5 : Int32), fL_law_L1866 L xs r28 σ l5 = some () → V pT κ σ 1866 [some (.inr 1000), some (.inr 0), some (.inr 124), some (.inr 155), some (.inr 156), some (.inl l5), none, none, none] [] := by
  have C := rga_C A
  have L2416 := law_L2416 hl hI A ih28
  intro κ hκ σ l5 h
  refine rg_goto (C _) (tgt := 2416) (by decide) dL_law_1866 ?_
  exact L2416 _ (by omega) _ _ h
set_option maxHeartbeats 4000000 in
set_option maxRecDepth 100000 in
theorem law_L1801 {l : Launch} {D : va_G} {ad : Nat → Nat} {cy : Nat → ClassId} {b L : Nat} {xs : Nat → Int32} {V : (Array Slot → Prop) → Vt} (hl : l.stackTraces = false) (hI : Inj ad) (A : RgA l D ad cy RL cL_law 9 20 10862 20000 [] (FL ad b L xs) V) {n : Nat} {r28 : Mem → Int32 → Option Unit} (ih28 : ∀ (κ : Nat), κ + 20 * n ≤ 20000 → ∀ (σ : Mem) (l5 : Int32), r28 σ l5 = some () → V pT κ σ 28 [some (.inr 1000), some (.inr 0), some (.inr 124), some (.inr 155), some (.inr 156), some (.inl l5), none, none, none] []) : ∀ (κ : Nat), κ + 20 * n + 19 ≤ 20000 → ∀ (σ : Mem) (l5 : Int32), fL_law_L1801 L xs r28 σ l5 = some () → V pT κ σ 1801 [some (.inr 1000), some (.inr 0), some (.inr 124), some (.inr 155), some (.inr 156), some (.inl l5), none, none, none] [] := by
  have C := rga_C A
  have L2416 := law_L2416 hl hI A ih28
  intro κ hκ σ l5 h
  refine rg_goto (C _) (tgt := 2416) (by decide) dL_law_1801 ?_
  exact L2416 _ (by omega) _ _ h
set_option maxHeartbeats 4000000 in
set_option maxRecDepth 100000 in
theorem law_L1720 {l : Launch} {D : va_G} {ad : Nat → Nat} {cy : Nat → ClassId} {b L : Nat} {xs : Nat → Int32} {V : (Array Slot → Prop) → Vt} (hl : l.stackTraces = false) (hI : Inj ad) (A : RgA l D ad cy RL cL_law 9 20 10862 20000 [] (FL ad b L xs) V) {n : Nat} {r28 : Mem → Int32 → Option Unit} (ih28 : ∀ (κ : Nat), κ + 20 * n ≤ 20000 → ∀ (σ : Mem) (l5 : Int32), r28 σ l5 = some () → V pT κ σ 28 [some (.inr 1000), some (.inr 0), some (.inr 124), some (.inr 155), some (.inr 156), some (.inl l5), none, none, none] []) : ∀ (κ : Nat), κ + 20 * n + 19 ≤ 20000 → ∀ (σ : Mem) (l5 : Int32), fL_law_L1720 L xs r28 σ l5 = some () → V pT κ σ 1720 [some (.inr 1000), some (.inr 0), some (.inr 124), some (.inr 155), some (.inr 156), some (.inl l5), none, none, none] [] := by
  have C := rga_C A
  have L2416 := law_L2416 hl hI A ih28
  intro κ hκ σ l5 h
  refine rg_goto (C _) (tgt := 2416) (by decide) dL_law_1720 ?_
  exact L2416 _ (by omega) _ _ h
set_option maxHeartbeats 4000000 in
set_option maxRecDepth 100000 in
theorem law_L1638 {l : Launch} {D : va_G} {ad : Nat → Nat} {cy : Nat → ClassId} {b L : Nat} {xs : Nat → Int32} {V : (Array Slot → Prop) → Vt} (hl : l.stackTraces = false) (hI : Inj ad) (A : RgA l D ad cy RL cL_law 9 20 10862 20000 [] (FL ad b L xs) V) {n : Nat} {r28 : Mem → Int32 → Option Unit} (ih28 : ∀ (κ : Nat), κ + 20 * n ≤ 20000 → ∀ (σ : Mem) (l5 : Int32), r28 σ l5 = some () → V pT κ σ 28 [some (.inr 1000), some (.inr 0), some (.inr 124), some (.inr 155), some (.inr 156), some (.inl l5), none, none, none] []) : ∀ (κ : Nat), κ + 20 * n + 19 ≤ 20000 → ∀ (σ : Mem) (l5 : Int32), fL_law_L1638 L xs r28 σ l5 = some () → V pT κ σ 1638 [some (.inr 1000), some (.inr 0), some (.inr 124), some (.inr 155), some (.inr 156), some (.inl l5), none, none, none] [] := by
  have C := rga_C A
  have L2416 := law_L2416 hl hI A ih28
  intro κ hκ σ l5 h
  refine rg_goto (C _) (tgt := 2416) (by decide) dL_law_1638 ?_
  exact L2416 _ (by omega) _ _ h
set_option maxHeartbeats 4000000 in
set_option maxRecDepth 100000 in
theorem law_L1582 {l : Launch} {D : va_G} {ad : Nat → Nat} {cy : Nat → ClassId} {b L : Nat} {xs : Nat → Int32} {V : (Array Slot → Prop) → Vt} (hl : l.stackTraces = false) (hI : Inj ad) (A : RgA l D ad cy RL cL_law 9 20 10862 20000 [] (FL ad b L xs) V) {n : Nat} {r28 : Mem → Int32 → Option Unit} (ih28 : ∀ (κ : Nat), κ + 20 * n ≤ 20000 → ∀ (σ : Mem) (l5 : Int32), r28 σ l5 = some () → V pT κ σ 28 [some (.inr 1000), some (.inr 0), some (.inr 124), some (.inr 155), some (.inr 156), some (.inl l5), none, none, none] []) : ∀ (κ : Nat), κ + 20 * n + 19 ≤ 20000 → ∀ (σ : Mem) (l5 : Int32), fL_law_L1582 L xs r28 σ l5 = some () → V pT κ σ 1582 [some (.inr 1000), some (.inr 0), some (.inr 124), some (.inr 155), some (.inr 156), some (.inl l5), none, none, none] [] := by
  have C := rga_C A
  have L2416 := law_L2416 hl hI A ih28
  intro κ hκ σ l5 h
  refine rg_goto (C _) (tgt := 2416) (by decide) dL_law_1582 ?_
  exact L2416 _ (by omega) _ _ h
set_option maxHeartbeats 4000000 in
set_option maxRecDepth 100000 in
theorem law_L1525 {l : Launch} {D : va_G} {ad : Nat → Nat} {cy : Nat → ClassId} {b L : Nat} {xs : Nat → Int32} {V : (Array Slot → Prop) → Vt} (hl : l.stackTraces = false) (hI : Inj ad) (A : RgA l D ad cy RL cL_law 9 20 10862 20000 [] (FL ad b L xs) V) {n : Nat} {r28 : Mem → Int32 → Option Unit} (ih28 : ∀ (κ : Nat), κ + 20 * n ≤ 20000 → ∀ (σ : Mem) (l5 : Int32), r28 σ l5 = some () → V pT κ σ 28 [some (.inr 1000), some (.inr 0), some (.inr 124), some (.inr 155), some (.inr 156), some (.inl l5), none, none, none] []) : ∀ (κ : Nat), κ + 20 * n + 18 ≤ 20000 → ∀ (σ : Mem) (l5 : Int32), fL_law_L1525 L xs r28 σ l5 = some () → V pT κ σ 1525 [some (.inr 1000), some (.inr 0), some (.inr 124), some (.inr 155), some (.inr 156), some (.inl l5), none, none, none] [] := by
  have C := rga_C A
  have L2416 := law_L2416 hl hI A ih28
  intro κ hκ σ l5 h
  refine rg_goto (C _) (tgt := 2416) (by decide) dL_law_1525 ?_
  exact L2416 _ (by omega) _ _ h
set_option maxHeartbeats 4000000 in
set_option maxRecDepth 100000 in
theorem law_L1519 {l : Launch} {D : va_G} {ad : Nat → Nat} {cy : Nat → ClassId} {b L : Nat} {xs : Nat → Int32} {V : (Array Slot → Prop) → Vt} (hl : l.stackTraces = false) (hI : Inj ad) (A : RgA l D ad cy RL cL_law 9 20 10862 20000 [] (FL ad b L xs) V) {n : Nat} {r28 : Mem → Int32 → Option Unit} (ih28 : ∀ (κ : Nat), κ + 20 * n ≤ 20000 → ∀ (σ : Mem) (l5 : Int32), r28 σ l5 = some () → V pT κ σ 28 [some (.inr 1000), some (.inr 0), some (.inr 124), some (.inr 155), some (.inr 156), some (.inl l5), none, none, none] []) : ∀ (κ : Nat), κ + 20 * n + 18 ≤ 20000 → ∀ (σ : Mem) (l5 s0 s1 : Int32), fL_law_L1519 L xs r28 σ l5 s0 s1 = some () → V pT κ σ 1519 [some (.inr 1000), some (.inr 0), some (.inr 124), some (.inr 155), some (.inr 156), some (.inl l5), none, none, none] [.long s1.toInt64, .long s0.toInt64] := by
  have C := rga_C A
  have L1525 := law_L1525 hl hI A ih28
  intro κ hκ σ l5 s0 s1 h
  refine rg_lcmpeq (C _) (tgt := 1525) h dL_law_1519 (by decide) dL_law_1520 (fun h => ?_) (fun h => ?_)
  · exact L1525 _ (by omega) _ _ h
  · exact no_e h
set_option maxHeartbeats 4000000 in
set_option maxRecDepth 100000 in
theorem law_L1450 {l : Launch} {D : va_G} {ad : Nat → Nat} {cy : Nat → ClassId} {b L : Nat} {xs : Nat → Int32} {V : (Array Slot → Prop) → Vt} (hl : l.stackTraces = false) (hI : Inj ad) (A : RgA l D ad cy RL cL_law 9 20 10862 20000 [] (FL ad b L xs) V) {n : Nat} {r28 : Mem → Int32 → Option Unit} (ih28 : ∀ (κ : Nat), κ + 20 * n ≤ 20000 → ∀ (σ : Mem) (l5 : Int32), r28 σ l5 = some () → V pT κ σ 28 [some (.inr 1000), some (.inr 0), some (.inr 124), some (.inr 155), some (.inr 156), some (.inl l5), none, none, none] []) : ∀ (κ : Nat), κ + 20 * n + 19 ≤ 20000 → ∀ (σ : Mem) (l5 : Int32), fL_law_L1450 L xs r28 σ l5 = some () → V pT κ σ 1450 [some (.inr 1000), some (.inr 0), some (.inr 124), some (.inr 155), some (.inr 156), some (.inl l5), none, none, none] [] := by
  have C := rga_C A
  have L2416 := law_L2416 hl hI A ih28
  intro κ hκ σ l5 h
  refine rg_goto (C _) (tgt := 2416) (by decide) dL_law_1450 ?_
  exact L2416 _ (by omega) _ _ h
set_option maxHeartbeats 4000000 in
set_option maxRecDepth 100000 in
theorem law_L1406 {l : Launch} {D : va_G} {ad : Nat → Nat} {cy : Nat → ClassId} {b L : Nat} {xs : Nat → Int32} {V : (Array Slot → Prop) → Vt} (hl : l.stackTraces = false) (hI : Inj ad) (A : RgA l D ad cy RL cL_law 9 20 10862 20000 [] (FL ad b L xs) V) {n : Nat} {r28 : Mem → Int32 → Option Unit} (ih28 : ∀ (κ : Nat), κ + 20 * n ≤ 20000 → ∀ (σ : Mem) (l5 : Int32), r28 σ l5 = some () → V pT κ σ 28 [some (.inr 1000), some (.inr 0), some (.inr 124), some (.inr 155), some (.inr 156), some (.inl l5), none, none, none] []) : ∀ (κ : Nat), κ + 20 * n + 19 ≤ 20000 → ∀ (σ : Mem) (l5 : Int32), fL_law_L1406 L xs r28 σ l5 = some () → V pT κ σ 1406 [some (.inr 1000), some (.inr 0), some (.inr 124), some (.inr 155), some (.inr 156), some (.inl l5), none, none, none] [] := by
  have C := rga_C A
  have L2416 := law_L2416 hl hI A ih28
  intro κ hκ σ l5 h
  refine rg_goto (C _) (tgt := 2416) (by decide) dL_law_1406 ?_
  exact L2416 _ (by omega) _ _ h
set_option maxHeartbeats 4000000 in
set_option maxRecDepth 100000 in
theorem law_L1333 {l : Launch} {D : va_G} {ad : Nat → Nat} {cy : Nat → ClassId} {b L : Nat} {xs : Nat → Int32} {V : (Array Slot → Prop) → Vt} (hl : l.stackTraces = false) (hI : Inj ad) (A : RgA l D ad cy RL cL_law 9 20 10862 20000 [] (FL ad b L xs) V) {n : Nat} {r28 : Mem → Int32 → Option Unit} (ih28 : ∀ (κ : Nat), κ + 20 * n ≤ 20000 → ∀ (σ : Mem) (l5 : Int32), r28 σ l5 = some () → V pT κ σ 28 [some (.inr 1000), some (.inr 0), some (.inr 124), some (.inr 155), some (.inr 156), some (.inl l5), none, none, none] []) : ∀ (κ : Nat), κ + 20 * n + 20 ≤ 20000 → ∀ (σ : Mem) (l5 s0 s2 : Int32), fL_law_L1333 L xs r28 σ l5 s0 s2 = some () → V pT κ σ 1333 [some (.inr 1000), some (.inr 0), some (.inr 124), some (.inr 155), some (.inr 156), some (.inl l5), none, none, none] [.int s2, .ref (ad 124), .int s0] := by
  have C := rga_C A
  have L2416 := law_L2416 hl hI A ih28
  intro κ hκ σ l5 s0 s2 h
  refine bd_e h (fun v251 σ251 hf251 h => ?_)
  refine rg_callV (C _) g_X10_moves hc_10 o_124 ml_L_214 (mX10_moves hl hI hf251) rfl rfl (by exact Nat.le_of_ble_eq_true rfl) ⟨Nat.le_of_ble_eq_true rfl, Nat.le_of_ble_eq_true rfl, by omega⟩ dL_law_1333 ?_
  refine rg_ic_eq (C _) (tgt := 2416) h (by decide) dL_law_1336 (fun hc h => ?_) (fun hc h => ?_)
  · exact L2416 _ (by omega) _ _ h
  · exact no_e h
set_option maxHeartbeats 4000000 in
set_option maxRecDepth 100000 in
theorem law_L1315 {l : Launch} {D : va_G} {ad : Nat → Nat} {cy : Nat → ClassId} {b L : Nat} {xs : Nat → Int32} {V : (Array Slot → Prop) → Vt} (hl : l.stackTraces = false) (hI : Inj ad) (A : RgA l D ad cy RL cL_law 9 20 10862 20000 [] (FL ad b L xs) V) {n : Nat} {r28 : Mem → Int32 → Option Unit} (ih28 : ∀ (κ : Nat), κ + 20 * n ≤ 20000 → ∀ (σ : Mem) (l5 : Int32), r28 σ l5 = some () → V pT κ σ 28 [some (.inr 1000), some (.inr 0), some (.inr 124), some (.inr 155), some (.inr 156), some (.inl l5), none, none, none] []) : ∀ (κ : Nat), κ + 20 * n + 20 ≤ 20000 → ∀ (σ : Mem) (l5 s1 : Int32), fL_law_L1315 L xs r28 σ l5 s1 = some () → V pT κ σ 1315 [some (.inr 1000), some (.inr 0), some (.inr 124), some (.inr 155), some (.inr 156), some (.inl l5), none, none, none] [.int s1, .ref (ad 0)] := by
  have C := rga_C A
  have L1333 := law_L1333 hl hI A ih28
  intro κ hκ σ l5 s1 h
  refine bd_e h (fun v252 σ252 hf252 h => ?_)
  refine rg_callV (C _) g_X9_moves hc_9 o_0 ml_L_210 (mX9_moves hl hI hf252) rfl rfl (by exact Nat.le_of_ble_eq_true rfl) ⟨Nat.le_of_ble_eq_true rfl, Nat.le_of_ble_eq_true rfl, by omega⟩ dL_law_1315 ?_
  refine rg_aload_n (C _) dL_law_1318 rfl ?_
  refine rg_aload_n (C _) dL_law_1319 rfl ?_
  refine rg_iload (C _) dL_law_1320 rfl ?_
  refine rg_iconst (C _) ic_1 dL_law_1322 ?_
  refine rg_iadd (C _) dL_law_1323 ?_
  obtain ⟨hi, h⟩ := ck_e h
  refine rgl_sld (C _) hi dL_law_1324 ?_
  refine rg_if_eq (C _) (tgt := 1332) h (by decide) dL_law_1325 (fun hc h => ?_) (fun hc h => ?_)
  · refine rg_iconst (C _) ic_0 dL_law_1332 ?_
    exact L1333 _ (by omega) _ _ _ _ h
  · refine rg_iconst (C _) ic_1 dL_law_1328 ?_
    refine rg_goto (C _) (tgt := 1333) (by decide) dL_law_1329 ?_
    exact L1333 _ (by omega) _ _ _ _ h
set_option maxHeartbeats 4000000 in
set_option maxRecDepth 100000 in
theorem law_L1297 {l : Launch} {D : va_G} {ad : Nat → Nat} {cy : Nat → ClassId} {b L : Nat} {xs : Nat → Int32} {V : (Array Slot → Prop) → Vt} (hl : l.stackTraces = false) (hI : Inj ad) (A : RgA l D ad cy RL cL_law 9 20 10862 20000 [] (FL ad b L xs) V) {n : Nat} {r28 : Mem → Int32 → Option Unit} (ih28 : ∀ (κ : Nat), κ + 20 * n ≤ 20000 → ∀ (σ : Mem) (l5 : Int32), r28 σ l5 = some () → V pT κ σ 28 [some (.inr 1000), some (.inr 0), some (.inr 124), some (.inr 155), some (.inr 156), some (.inl l5), none, none, none] []) : ∀ (κ : Nat), κ + 20 * n + 19 ≤ 20000 → ∀ (σ : Mem) (l5 : Int32), fL_law_L1297 L xs r28 σ l5 = some () → V pT κ σ 1297 [some (.inr 1000), some (.inr 0), some (.inr 124), some (.inr 155), some (.inr 156), some (.inl l5), none, none, none] [] := by
  have C := rga_C A
  have L2416 := law_L2416 hl hI A ih28
  intro κ hκ σ l5 h
  refine rg_goto (C _) (tgt := 2416) (by decide) dL_law_1297 ?_
  exact L2416 _ (by omega) _ _ h
set_option maxHeartbeats 4000000 in
set_option maxRecDepth 100000 in
theorem law_L1241 {l : Launch} {D : va_G} {ad : Nat → Nat} {cy : Nat → ClassId} {b L : Nat} {xs : Nat → Int32} {V : (Array Slot → Prop) → Vt} (hl : l.stackTraces = false) (hI : Inj ad) (A : RgA l D ad cy RL cL_law 9 20 10862 20000 [] (FL ad b L xs) V) {n : Nat} {r28 : Mem → Int32 → Option Unit} (ih28 : ∀ (κ : Nat), κ + 20 * n ≤ 20000 → ∀ (σ : Mem) (l5 : Int32), r28 σ l5 = some () → V pT κ σ 28 [some (.inr 1000), some (.inr 0), some (.inr 124), some (.inr 155), some (.inr 156), some (.inl l5), none, none, none] []) : ∀ (κ : Nat), κ + 20 * n + 19 ≤ 20000 → ∀ (σ : Mem) (l5 : Int32), fL_law_L1241 L xs r28 σ l5 = some () → V pT κ σ 1241 [some (.inr 1000), some (.inr 0), some (.inr 124), some (.inr 155), some (.inr 156), some (.inl l5), none, none, none] [] := by
  have C := rga_C A
  have L2416 := law_L2416 hl hI A ih28
  intro κ hκ σ l5 h
  refine rg_goto (C _) (tgt := 2416) (by decide) dL_law_1241 ?_
  exact L2416 _ (by omega) _ _ h
set_option maxHeartbeats 4000000 in
set_option maxRecDepth 100000 in
theorem law_L1185 {l : Launch} {D : va_G} {ad : Nat → Nat} {cy : Nat → ClassId} {b L : Nat} {xs : Nat → Int32} {V : (Array Slot → Prop) → Vt} (hl : l.stackTraces = false) (hI : Inj ad) (A : RgA l D ad cy RL cL_law 9 20 10862 20000 [] (FL ad b L xs) V) {n : Nat} {r28 : Mem → Int32 → Option Unit} (ih28 : ∀ (κ : Nat), κ + 20 * n ≤ 20000 → ∀ (σ : Mem) (l5 : Int32), r28 σ l5 = some () → V pT κ σ 28 [some (.inr 1000), some (.inr 0), some (.inr 124), some (.inr 155), some (.inr 156), some (.inl l5), none, none, none] []) : ∀ (κ : Nat), κ + 20 * n + 19 ≤ 20000 → ∀ (σ : Mem) (l5 : Int32), fL_law_L1185 L xs r28 σ l5 = some () → V pT κ σ 1185 [some (.inr 1000), some (.inr 0), some (.inr 124), some (.inr 155), some (.inr 156), some (.inl l5), none, none, none] [] := by
  have C := rga_C A
  have L2416 := law_L2416 hl hI A ih28
  intro κ hκ σ l5 h
  refine rg_goto (C _) (tgt := 2416) (by decide) dL_law_1185 ?_
  exact L2416 _ (by omega) _ _ h
set_option maxHeartbeats 4000000 in
set_option maxRecDepth 100000 in
theorem law_L1129 {l : Launch} {D : va_G} {ad : Nat → Nat} {cy : Nat → ClassId} {b L : Nat} {xs : Nat → Int32} {V : (Array Slot → Prop) → Vt} (hl : l.stackTraces = false) (hI : Inj ad) (A : RgA l D ad cy RL cL_law 9 20 10862 20000 [] (FL ad b L xs) V) {n : Nat} {r28 : Mem → Int32 → Option Unit} (ih28 : ∀ (κ : Nat), κ + 20 * n ≤ 20000 → ∀ (σ : Mem) (l5 : Int32), r28 σ l5 = some () → V pT κ σ 28 [some (.inr 1000), some (.inr 0), some (.inr 124), some (.inr 155), some (.inr 156), some (.inl l5), none, none, none] []) : ∀ (κ : Nat), κ + 20 * n + 19 ≤ 20000 → ∀ (σ : Mem) (l5 : Int32), fL_law_L1129 L xs r28 σ l5 = some () → V pT κ σ 1129 [some (.inr 1000), some (.inr 0), some (.inr 124), some (.inr 155), some (.inr 156), some (.inl l5), none, none, none] [] := by
  have C := rga_C A
  have L2416 := law_L2416 hl hI A ih28
  intro κ hκ σ l5 h
  refine rg_goto (C _) (tgt := 2416) (by decide) dL_law_1129 ?_
  exact L2416 _ (by omega) _ _ h
set_option maxHeartbeats 4000000 in
set_option maxRecDepth 100000 in
theorem law_L1060 {l : Launch} {D : va_G} {ad : Nat → Nat} {cy : Nat → ClassId} {b L : Nat} {xs : Nat → Int32} {V : (Array Slot → Prop) → Vt} (hl : l.stackTraces = false) (hI : Inj ad) (A : RgA l D ad cy RL cL_law 9 20 10862 20000 [] (FL ad b L xs) V) {n : Nat} {r28 : Mem → Int32 → Option Unit} (ih28 : ∀ (κ : Nat), κ + 20 * n ≤ 20000 → ∀ (σ : Mem) (l5 : Int32), r28 σ l5 = some () → V pT κ σ 28 [some (.inr 1000), some (.inr 0), some (.inr 124), some (.inr 155), some (.inr 156), some (.inl l5), none, none, none] []) : ∀ (κ : Nat), κ + 20 * n + 19 ≤ 20000 → ∀ (σ : Mem) (l5 : Int32), fL_law_L1060 L xs r28 σ l5 = some () → V pT κ σ 1060 [some (.inr 1000), some (.inr 0), some (.inr 124), some (.inr 155), some (.inr 156), some (.inl l5), none, none, none] [] := by
  have C := rga_C A
  have L2416 := law_L2416 hl hI A ih28
  intro κ hκ σ l5 h
  refine rg_goto (C _) (tgt := 2416) (by decide) dL_law_1060 ?_
  exact L2416 _ (by omega) _ _ h
set_option maxHeartbeats 4000000 in
set_option maxRecDepth 100000 in
theorem law_L1004 {l : Launch} {D : va_G} {ad : Nat → Nat} {cy : Nat → ClassId} {b L : Nat} {xs : Nat → Int32} {V : (Array Slot → Prop) → Vt} (hl : l.stackTraces = false) (hI : Inj ad) (A : RgA l D ad cy RL cL_law 9 20 10862 20000 [] (FL ad b L xs) V) {n : Nat} {r28 : Mem → Int32 → Option Unit} (ih28 : ∀ (κ : Nat), κ + 20 * n ≤ 20000 → ∀ (σ : Mem) (l5 : Int32), r28 σ l5 = some () → V pT κ σ 28 [some (.inr 1000), some (.inr 0), some (.inr 124), some (.inr 155), some (.inr 156), some (.inl l5), none, none, none] []) : ∀ (κ : Nat), κ + 20 * n + 19 ≤ 20000 → ∀ (σ : Mem) (l5 : Int32), fL_law_L1004 L xs r28 σ l5 = some () → V pT κ σ 1004 [some (.inr 1000), some (.inr 0), some (.inr 124), some (.inr 155), some (.inr 156), some (.inl l5), none, none, none] [] := by
  have C := rga_C A
  have L2416 := law_L2416 hl hI A ih28
  intro κ hκ σ l5 h
  refine rg_goto (C _) (tgt := 2416) (by decide) dL_law_1004 ?_
  exact L2416 _ (by omega) _ _ h
set_option maxHeartbeats 4000000 in
set_option maxRecDepth 100000 in
theorem law_L960 {l : Launch} {D : va_G} {ad : Nat → Nat} {cy : Nat → ClassId} {b L : Nat} {xs : Nat → Int32} {V : (Array Slot → Prop) → Vt} (hl : l.stackTraces = false) (hI : Inj ad) (A : RgA l D ad cy RL cL_law 9 20 10862 20000 [] (FL ad b L xs) V) {n : Nat} {r28 : Mem → Int32 → Option Unit} (ih28 : ∀ (κ : Nat), κ + 20 * n ≤ 20000 → ∀ (σ : Mem) (l5 : Int32), r28 σ l5 = some () → V pT κ σ 28 [some (.inr 1000), some (.inr 0), some (.inr 124), some (.inr 155), some (.inr 156), some (.inl l5), none, none, none] []) : ∀ (κ : Nat), κ + 20 * n + 19 ≤ 20000 → ∀ (σ : Mem) (l5 : Int32), fL_law_L960 L xs r28 σ l5 = some () → V pT κ σ 960 [some (.inr 1000), some (.inr 0), some (.inr 124), some (.inr 155), some (.inr 156), some (.inl l5), none, none, none] [] := by
  have C := rga_C A
  have L2416 := law_L2416 hl hI A ih28
  intro κ hκ σ l5 h
  refine rg_goto (C _) (tgt := 2416) (by decide) dL_law_960 ?_
  exact L2416 _ (by omega) _ _ h
set_option maxHeartbeats 4000000 in
set_option maxRecDepth 100000 in
theorem law_L927 {l : Launch} {D : va_G} {ad : Nat → Nat} {cy : Nat → ClassId} {b L : Nat} {xs : Nat → Int32} {V : (Array Slot → Prop) → Vt} (hl : l.stackTraces = false) (hI : Inj ad) (A : RgA l D ad cy RL cL_law 9 20 10862 20000 [] (FL ad b L xs) V) {n : Nat} {r28 : Mem → Int32 → Option Unit} (ih28 : ∀ (κ : Nat), κ + 20 * n ≤ 20000 → ∀ (σ : Mem) (l5 : Int32), r28 σ l5 = some () → V pT κ σ 28 [some (.inr 1000), some (.inr 0), some (.inr 124), some (.inr 155), some (.inr 156), some (.inl l5), none, none, none] []) : ∀ (κ : Nat), κ + 20 * n + 19 ≤ 20000 → ∀ (σ : Mem) (l5 l6 s1 s2 : Int32), fL_law_L927 L xs r28 σ l5 l6 s1 s2 = some () → V pT κ σ 927 [some (.inr 1000), some (.inr 0), some (.inr 124), some (.inr 155), some (.inr 156), some (.inl l5), some (.inl l6), none, none] [.int s2, .int s1, .ref (ad 124)] := by
  have C := rga_C A
  have L960 := law_L960 hl hI A ih28
  intro κ hκ σ l5 l6 s1 s2 h
  refine bd_e h (fun v253 σ253 hf253 h => ?_)
  refine rg_callV (C _) g_X10_violation hc_10 o_124 ml_L_186 (mX10_violation hl hI hf253) rfl rfl (by exact Nat.le_of_ble_eq_true rfl) ⟨Nat.le_of_ble_eq_true rfl, Nat.le_of_ble_eq_true rfl, by omega⟩ dL_law_927 ?_
  refine rg_istore (C pT) (by decide) dL_law_930 ?_
  refine rg_aload_n (C _) dL_law_932 rfl ?_
  refine bd_e h (fun v254 σ254 hf254 h => ?_)
  refine rg_callV (C _) g_X10_thrown hc_10 o_124 ml_L_146 (mX10_thrown hl hI hf254) rfl rfl (by exact Nat.le_of_ble_eq_true rfl) ⟨Nat.le_of_ble_eq_true rfl, Nat.le_of_ble_eq_true rfl, by omega⟩ dL_law_933 ?_
  refine rg_iload (C _) dL_law_936 rfl ?_
  refine rg_ic_eq (C _) (tgt := 943) h (by decide) dL_law_938 (fun hc h => ?_) (fun hc h => ?_)
  · refine rg_iload (C _) dL_law_943 rfl ?_
    refine rg_if_ne (C _) (tgt := 960) h (by decide) dL_law_945 (fun hc h => ?_) (fun hc h => ?_)
    · refine rg_weak (C _) [some (.inr 1000), some (.inr 0), some (.inr 124), some (.inr 155), some (.inr 156), some (.inl l5), none, none, none] ⟨rfl, ⟨rfl, ⟨rfl, ⟨rfl, ⟨rfl, ⟨rfl, trivial⟩⟩⟩⟩⟩⟩ ?_
      exact L960 _ (by omega) _ _ h
    · refine rg_aload_n (C _) dL_law_948 rfl ?_
      refine rg_iconst (C _) ic_0 dL_law_949 ?_
      refine rg_laload (C _) dL_law_950 ?_
      refine rg_iload (C _) dL_law_951 rfl ?_
      refine rg_i2l (C _) dL_law_953 ?_
      refine rg_lcmpeq (C _) (tgt := 960) h dL_law_954 (by decide) dL_law_955 (fun h => ?_) (fun h => ?_)
      · refine rg_weak (C _) [some (.inr 1000), some (.inr 0), some (.inr 124), some (.inr 155), some (.inr 156), some (.inl l5), none, none, none] ⟨rfl, ⟨rfl, ⟨rfl, ⟨rfl, ⟨rfl, ⟨rfl, trivial⟩⟩⟩⟩⟩⟩ ?_
        exact L960 _ (by omega) _ _ h
      · exact no_e h
  · exact no_e h
set_option maxHeartbeats 4000000 in
set_option maxRecDepth 100000 in
theorem law_L900 {l : Launch} {D : va_G} {ad : Nat → Nat} {cy : Nat → ClassId} {b L : Nat} {xs : Nat → Int32} {V : (Array Slot → Prop) → Vt} (hl : l.stackTraces = false) (hI : Inj ad) (A : RgA l D ad cy RL cL_law 9 20 10862 20000 [] (FL ad b L xs) V) {n : Nat} {r28 : Mem → Int32 → Option Unit} (ih28 : ∀ (κ : Nat), κ + 20 * n ≤ 20000 → ∀ (σ : Mem) (l5 : Int32), r28 σ l5 = some () → V pT κ σ 28 [some (.inr 1000), some (.inr 0), some (.inr 124), some (.inr 155), some (.inr 156), some (.inl l5), none, none, none] []) : ∀ (κ : Nat), κ + 20 * n + 20 ≤ 20000 → ∀ (σ : Mem) (l5 s1 s2 : Int32), fL_law_L900 L xs r28 σ l5 s1 s2 = some () → V pT κ σ 900 [some (.inr 1000), some (.inr 0), some (.inr 124), some (.inr 155), some (.inr 156), some (.inl l5), none, none, none] [.int s2, .int s1, .ref (ad 0)] := by
  have C := rga_C A
  have L927 := law_L927 hl hI A ih28
  intro κ hκ σ l5 s1 s2 h
  refine rg_aload_n (C _) dL_law_900 rfl ?_
  refine bd_e h (fun v255 σ255 hf255 h => ?_)
  refine rg_callW (C _) gw_L_violation ml_L_183 (cL_violation_c hl hI hf255) rfl rfl (by exact Nat.le_of_ble_eq_true rfl) ⟨Nat.le_of_ble_eq_true rfl, Nat.le_of_ble_eq_true rfl, by omega⟩ dL_law_901 ?_
  refine rg_istore (C pT) (by decide) dL_law_904 ?_
  refine rg_aload_n (C _) dL_law_906 rfl ?_
  refine rg_aload_n (C _) dL_law_907 rfl ?_
  refine rg_iload (C _) dL_law_908 rfl ?_
  refine rg_iconst (C _) ic_1 dL_law_910 ?_
  refine rg_iadd (C _) dL_law_911 ?_
  obtain ⟨hi, h⟩ := ck_e h
  refine rgl_sld (C _) hi dL_law_912 ?_
  refine rg_aload_n (C _) dL_law_913 rfl ?_
  refine rg_iload (C _) dL_law_914 rfl ?_
  refine rg_iconst (C _) ic_2 dL_law_916 ?_
  refine rg_iadd (C _) dL_law_917 ?_
  obtain ⟨hi, h⟩ := ck_e h
  refine rgl_sld (C _) hi dL_law_918 ?_
  refine rg_if_eq (C _) (tgt := 926) h (by decide) dL_law_919 (fun hc h => ?_) (fun hc h => ?_)
  · refine rg_iconst (C _) ic_0 dL_law_926 ?_
    exact L927 _ (by omega) _ _ _ _ _ h
  · refine rg_iconst (C _) ic_1 dL_law_922 ?_
    refine rg_goto (C _) (tgt := 927) (by decide) dL_law_923 ?_
    exact L927 _ (by omega) _ _ _ _ _ h
set_option maxHeartbeats 4000000 in
set_option maxRecDepth 100000 in
theorem law_L850 {l : Launch} {D : va_G} {ad : Nat → Nat} {cy : Nat → ClassId} {b L : Nat} {xs : Nat → Int32} {V : (Array Slot → Prop) → Vt} (hl : l.stackTraces = false) (hI : Inj ad) (A : RgA l D ad cy RL cL_law 9 20 10862 20000 [] (FL ad b L xs) V) {n : Nat} {r28 : Mem → Int32 → Option Unit} (ih28 : ∀ (κ : Nat), κ + 20 * n ≤ 20000 → ∀ (σ : Mem) (l5 : Int32), r28 σ l5 = some () → V pT κ σ 28 [some (.inr 1000), some (.inr 0), some (.inr 124), some (.inr 155), some (.inr 156), some (.inl l5), none, none, none] []) : ∀ (κ : Nat), κ + 20 * n + 18 ≤ 20000 → ∀ (σ : Mem) (l5 : Int32), fL_law_L850 L xs r28 σ l5 = some () → V pT κ σ 850 [some (.inr 1000), some (.inr 0), some (.inr 124), some (.inr 155), some (.inr 156), some (.inl l5), none, none, none] [] := by
  have C := rga_C A
  have L2416 := law_L2416 hl hI A ih28
  intro κ hκ σ l5 h
  refine rg_goto (C _) (tgt := 2416) (by decide) dL_law_850 ?_
  exact L2416 _ (by omega) _ _ h
set_option maxHeartbeats 4000000 in
set_option maxRecDepth 100000 in
theorem law_L782 {l : Launch} {D : va_G} {ad : Nat → Nat} {cy : Nat → ClassId} {b L : Nat} {xs : Nat → Int32} {V : (Array Slot → Prop) → Vt} (hl : l.stackTraces = false) (hI : Inj ad) (A : RgA l D ad cy RL cL_law 9 20 10862 20000 [] (FL ad b L xs) V) {n : Nat} {r28 : Mem → Int32 → Option Unit} (ih28 : ∀ (κ : Nat), κ + 20 * n ≤ 20000 → ∀ (σ : Mem) (l5 : Int32), r28 σ l5 = some () → V pT κ σ 28 [some (.inr 1000), some (.inr 0), some (.inr 124), some (.inr 155), some (.inr 156), some (.inl l5), none, none, none] []) : ∀ (κ : Nat), κ + 20 * n + 18 ≤ 20000 → ∀ (σ : Mem) (l5 : Int32), fL_law_L782 L xs r28 σ l5 = some () → V pT κ σ 782 [some (.inr 1000), some (.inr 0), some (.inr 124), some (.inr 155), some (.inr 156), some (.inl l5), none, none, none] [] := by
  have C := rga_C A
  have L2416 := law_L2416 hl hI A ih28
  intro κ hκ σ l5 h
  refine rg_goto (C _) (tgt := 2416) (by decide) dL_law_782 ?_
  exact L2416 _ (by omega) _ _ h
set_option maxHeartbeats 4000000 in
set_option maxRecDepth 100000 in
theorem law_L714 {l : Launch} {D : va_G} {ad : Nat → Nat} {cy : Nat → ClassId} {b L : Nat} {xs : Nat → Int32} {V : (Array Slot → Prop) → Vt} (hl : l.stackTraces = false) (hI : Inj ad) (A : RgA l D ad cy RL cL_law 9 20 10862 20000 [] (FL ad b L xs) V) {n : Nat} {r28 : Mem → Int32 → Option Unit} (ih28 : ∀ (κ : Nat), κ + 20 * n ≤ 20000 → ∀ (σ : Mem) (l5 : Int32), r28 σ l5 = some () → V pT κ σ 28 [some (.inr 1000), some (.inr 0), some (.inr 124), some (.inr 155), some (.inr 156), some (.inl l5), none, none, none] []) : ∀ (κ : Nat), κ + 20 * n + 19 ≤ 20000 → ∀ (σ : Mem) (l5 : Int32), fL_law_L714 L xs r28 σ l5 = some () → V pT κ σ 714 [some (.inr 1000), some (.inr 0), some (.inr 124), some (.inr 155), some (.inr 156), some (.inl l5), none, none, none] [] := by
  have C := rga_C A
  have L2416 := law_L2416 hl hI A ih28
  intro κ hκ σ l5 h
  refine rg_goto (C _) (tgt := 2416) (by decide) dL_law_714 ?_
  exact L2416 _ (by omega) _ _ h
set_option maxHeartbeats 4000000 in
set_option maxRecDepth 100000 in
theorem law_L658 {l : Launch} {D : va_G} {ad : Nat → Nat} {cy : Nat → ClassId} {b L : Nat} {xs : Nat → Int32} {V : (Array Slot → Prop) → Vt} (hl : l.stackTraces = false) (hI : Inj ad) (A : RgA l D ad cy RL cL_law 9 20 10862 20000 [] (FL ad b L xs) V) {n : Nat} {r28 : Mem → Int32 → Option Unit} (ih28 : ∀ (κ : Nat), κ + 20 * n ≤ 20000 → ∀ (σ : Mem) (l5 : Int32), r28 σ l5 = some () → V pT κ σ 28 [some (.inr 1000), some (.inr 0), some (.inr 124), some (.inr 155), some (.inr 156), some (.inl l5), none, none, none] []) : ∀ (κ : Nat), κ + 20 * n + 18 ≤ 20000 → ∀ (σ : Mem) (l5 : Int32), fL_law_L658 L xs r28 σ l5 = some () → V pT κ σ 658 [some (.inr 1000), some (.inr 0), some (.inr 124), some (.inr 155), some (.inr 156), some (.inl l5), none, none, none] [] := by
  have C := rga_C A
  have L2416 := law_L2416 hl hI A ih28
  intro κ hκ σ l5 h
  refine rg_goto (C _) (tgt := 2416) (by decide) dL_law_658 ?_
  exact L2416 _ (by omega) _ _ h
set_option maxHeartbeats 4000000 in
set_option maxRecDepth 100000 in
theorem law_L590 {l : Launch} {D : va_G} {ad : Nat → Nat} {cy : Nat → ClassId} {b L : Nat} {xs : Nat → Int32} {V : (Array Slot → Prop) → Vt} (hl : l.stackTraces = false) (hI : Inj ad) (A : RgA l D ad cy RL cL_law 9 20 10862 20000 [] (FL ad b L xs) V) {n : Nat} {r28 : Mem → Int32 → Option Unit} (ih28 : ∀ (κ : Nat), κ + 20 * n ≤ 20000 → ∀ (σ : Mem) (l5 : Int32), r28 σ l5 = some () → V pT κ σ 28 [some (.inr 1000), some (.inr 0), some (.inr 124), some (.inr 155), some (.inr 156), some (.inl l5), none, none, none] []) : ∀ (κ : Nat), κ + 20 * n + 18 ≤ 20000 → ∀ (σ : Mem) (l5 : Int32), fL_law_L590 L xs r28 σ l5 = some () → V pT κ σ 590 [some (.inr 1000), some (.inr 0), some (.inr 124), some (.inr 155), some (.inr 156), some (.inl l5), none, none, none] [] := by
  have C := rga_C A
  have L2416 := law_L2416 hl hI A ih28
  intro κ hκ σ l5 h
  refine rg_goto (C _) (tgt := 2416) (by decide) dL_law_590 ?_
  exact L2416 _ (by omega) _ _ h
set_option maxHeartbeats 4000000 in
set_option maxRecDepth 100000 in
theorem law_L522 {l : Launch} {D : va_G} {ad : Nat → Nat} {cy : Nat → ClassId} {b L : Nat} {xs : Nat → Int32} {V : (Array Slot → Prop) → Vt} (hl : l.stackTraces = false) (hI : Inj ad) (A : RgA l D ad cy RL cL_law 9 20 10862 20000 [] (FL ad b L xs) V) {n : Nat} {r28 : Mem → Int32 → Option Unit} (ih28 : ∀ (κ : Nat), κ + 20 * n ≤ 20000 → ∀ (σ : Mem) (l5 : Int32), r28 σ l5 = some () → V pT κ σ 28 [some (.inr 1000), some (.inr 0), some (.inr 124), some (.inr 155), some (.inr 156), some (.inl l5), none, none, none] []) : ∀ (κ : Nat), κ + 20 * n + 19 ≤ 20000 → ∀ (σ : Mem) (l5 : Int32), fL_law_L522 L xs r28 σ l5 = some () → V pT κ σ 522 [some (.inr 1000), some (.inr 0), some (.inr 124), some (.inr 155), some (.inr 156), some (.inl l5), none, none, none] [] := by
  have C := rga_C A
  have L2416 := law_L2416 hl hI A ih28
  intro κ hκ σ l5 h
  refine rg_goto (C _) (tgt := 2416) (by decide) dL_law_522 ?_
  exact L2416 _ (by omega) _ _ h
set_option maxHeartbeats 4000000 in
set_option maxRecDepth 100000 in
theorem law_L466 {l : Launch} {D : va_G} {ad : Nat → Nat} {cy : Nat → ClassId} {b L : Nat} {xs : Nat → Int32} {V : (Array Slot → Prop) → Vt} (hl : l.stackTraces = false) (hI : Inj ad) (A : RgA l D ad cy RL cL_law 9 20 10862 20000 [] (FL ad b L xs) V) {n : Nat} {r28 : Mem → Int32 → Option Unit} (ih28 : ∀ (κ : Nat), κ + 20 * n ≤ 20000 → ∀ (σ : Mem) (l5 : Int32), r28 σ l5 = some () → V pT κ σ 28 [some (.inr 1000), some (.inr 0), some (.inr 124), some (.inr 155), some (.inr 156), some (.inl l5), none, none, none] []) : ∀ (κ : Nat), κ + 20 * n + 16 ≤ 20000 → ∀ (σ : Mem) (l5 : Int32), fL_law_L466 L xs r28 σ l5 = some () → V pT κ σ 466 [some (.inr 1000), some (.inr 0), some (.inr 124), some (.inr 155), some (.inr 156), some (.inl l5), none, none, none] [] := by
  have C := rga_C A
  have L2416 := law_L2416 hl hI A ih28
  intro κ hκ σ l5 h
  refine rg_goto (C _) (tgt := 2416) (by decide) dL_law_466 ?_
  exact L2416 _ (by omega) _ _ h
set_option maxHeartbeats 4000000 in
set_option maxRecDepth 100000 in
theorem law_L374 {l : Launch} {D : va_G} {ad : Nat → Nat} {cy : Nat → ClassId} {b L : Nat} {xs : Nat → Int32} {V : (Array Slot → Prop) → Vt} (hl : l.stackTraces = false) (hI : Inj ad) (A : RgA l D ad cy RL cL_law 9 20 10862 20000 [] (FL ad b L xs) V) {n : Nat} {r28 : Mem → Int32 → Option Unit} (ih28 : ∀ (κ : Nat), κ + 20 * n ≤ 20000 → ∀ (σ : Mem) (l5 : Int32), r28 σ l5 = some () → V pT κ σ 28 [some (.inr 1000), some (.inr 0), some (.inr 124), some (.inr 155), some (.inr 156), some (.inl l5), none, none, none] []) : ∀ (κ : Nat), κ + 20 * n + 18 ≤ 20000 → ∀ (σ : Mem) (l5 : Int32), fL_law_L374 L xs r28 σ l5 = some () → V pT κ σ 374 [some (.inr 1000), some (.inr 0), some (.inr 124), some (.inr 155), some (.inr 156), some (.inl l5), none, none, none] [] := by
  have C := rga_C A
  have L2416 := law_L2416 hl hI A ih28
  intro κ hκ σ l5 h
  refine rg_goto (C _) (tgt := 2416) (by decide) dL_law_374 ?_
  exact L2416 _ (by omega) _ _ h
set_option maxHeartbeats 4000000 in
set_option maxRecDepth 100000 in
theorem law_L306 {l : Launch} {D : va_G} {ad : Nat → Nat} {cy : Nat → ClassId} {b L : Nat} {xs : Nat → Int32} {V : (Array Slot → Prop) → Vt} (hl : l.stackTraces = false) (hI : Inj ad) (A : RgA l D ad cy RL cL_law 9 20 10862 20000 [] (FL ad b L xs) V) {n : Nat} {r28 : Mem → Int32 → Option Unit} (ih28 : ∀ (κ : Nat), κ + 20 * n ≤ 20000 → ∀ (σ : Mem) (l5 : Int32), r28 σ l5 = some () → V pT κ σ 28 [some (.inr 1000), some (.inr 0), some (.inr 124), some (.inr 155), some (.inr 156), some (.inl l5), none, none, none] []) : ∀ (κ : Nat), κ + 20 * n + 18 ≤ 20000 → ∀ (σ : Mem) (l5 : Int32), fL_law_L306 L xs r28 σ l5 = some () → V pT κ σ 306 [some (.inr 1000), some (.inr 0), some (.inr 124), some (.inr 155), some (.inr 156), some (.inl l5), none, none, none] [] := by
  have C := rga_C A
  have L2416 := law_L2416 hl hI A ih28
  intro κ hκ σ l5 h
  refine rg_goto (C _) (tgt := 2416) (by decide) dL_law_306 ?_
  exact L2416 _ (by omega) _ _ h
set_option maxHeartbeats 4000000 in
set_option maxRecDepth 100000 in
theorem law_K0 {l : Launch} {D : va_G} {ad : Nat → Nat} {cy : Nat → ClassId} {b L : Nat} {xs : Nat → Int32} {V : (Array Slot → Prop) → Vt} (hl : l.stackTraces = false) (hI : Inj ad) (A : RgA l D ad cy RL cL_law 9 20 10862 20000 [] (FL ad b L xs) V) {n : Nat} {r28 : Mem → Int32 → Option Unit} (ih28 : ∀ (κ : Nat), κ + 20 * n ≤ 20000 → ∀ (σ : Mem) (l5 : Int32), r28 σ l5 = some () → V pT κ σ 28 [some (.inr 1000), some (.inr 0), some (.inr 124), some (.inr 155), some (.inr 156), some (.inl l5), none, none, none] []) : ∀ (κ : Nat), κ + 20 * n + 20 ≤ 20000 → ∀ (σ : Mem) (l5 : Int32), fL_case0 L xs r28 σ l5 = some () → V pT κ σ 240 [some (.inr 1000), some (.inr 0), some (.inr 124), some (.inr 155), some (.inr 156), some (.inl l5), none, none, none] [] := by
  have C := rga_C A
  have L2416 := law_L2416 hl hI A ih28
  intro κ hκ σ l5 h
  refine rg_aload_n (C _) dL_law_240 rfl ?_
  refine bd_e h (fun v256 σ256 hf256 h => ?_)
  refine rg_callV (C _) g_X9_clear hc_9 o_0 ml_L_136 (mX9_clear hl hI hf256) rfl rfl (by exact Nat.le_of_ble_eq_true rfl) ⟨Nat.le_of_ble_eq_true rfl, Nat.le_of_ble_eq_true rfl, by omega⟩ dL_law_241 ?_
  refine rg_aload_n (C _) dL_law_244 rfl ?_
  refine bd_e h (fun v257 σ257 hf257 h => ?_)
  refine rg_callV (C _) g_X10_clear hc_10 o_124 ml_L_139 (mX10_clear hl hI hf257) rfl rfl (by exact Nat.le_of_ble_eq_true rfl) ⟨Nat.le_of_ble_eq_true rfl, Nat.le_of_ble_eq_true rfl, by omega⟩ dL_law_245 ?_
  refine rg_ic_eq (C _) (tgt := 2416) h (by decide) dL_law_248 (fun hc h => ?_) (fun hc h => ?_)
  · exact L2416 _ (by omega) _ _ h
  · exact no_e h
set_option maxHeartbeats 4000000 in
set_option maxRecDepth 100000 in
theorem law_K1 {l : Launch} {D : va_G} {ad : Nat → Nat} {cy : Nat → ClassId} {b L : Nat} {xs : Nat → Int32} {V : (Array Slot → Prop) → Vt} (hl : l.stackTraces = false) (hI : Inj ad) (A : RgA l D ad cy RL cL_law 9 20 10862 20000 [] (FL ad b L xs) V) {n : Nat} {r28 : Mem → Int32 → Option Unit} (ih28 : ∀ (κ : Nat), κ + 20 * n ≤ 20000 → ∀ (σ : Mem) (l5 : Int32), r28 σ l5 = some () → V pT κ σ 28 [some (.inr 1000), some (.inr 0), some (.inr 124), some (.inr 155), some (.inr 156), some (.inl l5), none, none, none] []) : ∀ (κ : Nat), κ + 20 * n + 20 ≤ 20000 → ∀ (σ : Mem) (l5 : Int32), fL_case1 L xs r28 σ l5 = some () → V pT κ σ 253 [some (.inr 1000), some (.inr 0), some (.inr 124), some (.inr 155), some (.inr 156), some (.inl l5), none, none, none] [] := by
  have C := rga_C A
  have L306 := law_L306 hl hI A ih28
  intro κ hκ σ l5 h
  refine rg_aload_n (C _) dL_law_253 rfl ?_
  refine rg_aload_n (C _) dL_law_254 rfl ?_
  refine rg_iload (C _) dL_law_255 rfl ?_
  refine rg_iconst (C _) ic_1 dL_law_257 ?_
  refine rg_iadd (C _) dL_law_258 ?_
  obtain ⟨hi, h⟩ := ck_e h
  refine rgl_sld (C _) hi dL_law_259 ?_
  refine rg_aload_n (C _) dL_law_260 rfl ?_
  refine bd_e h (fun v258 σ258 hf258 h => ?_)
  refine rg_callW (C _) gw_L_addVariable ml_L_140 (cL_addVariable_c hl hI hf258) rfl rfl (by exact Nat.le_of_ble_eq_true rfl) ⟨Nat.le_of_ble_eq_true rfl, Nat.le_of_ble_eq_true rfl, by omega⟩ dL_law_261 ?_
  refine rg_istore (C pT) (by decide) dL_law_264 ?_
  refine rg_aload_n (C _) dL_law_266 rfl ?_
  refine rg_aload_n (C _) dL_law_267 rfl ?_
  refine rg_iload (C _) dL_law_268 rfl ?_
  refine rg_iconst (C _) ic_1 dL_law_270 ?_
  refine rg_iadd (C _) dL_law_271 ?_
  obtain ⟨hi, h⟩ := ck_e h
  refine rgl_sld (C _) hi dL_law_272 ?_
  refine bd_e h (fun v259 σ259 hf259 h => ?_)
  refine rg_callV (C _) g_X10_addVariable hc_10 o_124 ml_L_145 (mX10_addVariable hl hI hf259) rfl rfl (by exact Nat.le_of_ble_eq_true rfl) ⟨Nat.le_of_ble_eq_true rfl, Nat.le_of_ble_eq_true rfl, by omega⟩ dL_law_273 ?_
  refine rg_istore (C pT) (by decide) dL_law_276 ?_
  refine rg_aload_n (C _) dL_law_278 rfl ?_
  refine bd_e h (fun v260 σ260 hf260 h => ?_)
  refine rg_callV (C _) g_X10_thrown hc_10 o_124 ml_L_146 (mX10_thrown hl hI hf260) rfl rfl (by exact Nat.le_of_ble_eq_true rfl) ⟨Nat.le_of_ble_eq_true rfl, Nat.le_of_ble_eq_true rfl, by omega⟩ dL_law_279 ?_
  refine rg_iload (C _) dL_law_282 rfl ?_
  refine rg_ic_eq (C _) (tgt := 289) h (by decide) dL_law_284 (fun hc h => ?_) (fun hc h => ?_)
  · refine rg_iload (C _) dL_law_289 rfl ?_
    refine rg_if_ne (C _) (tgt := 306) h (by decide) dL_law_291 (fun hc h => ?_) (fun hc h => ?_)
    · refine rg_weak (C _) [some (.inr 1000), some (.inr 0), some (.inr 124), some (.inr 155), some (.inr 156), some (.inl l5), none, none, none] ⟨rfl, ⟨rfl, ⟨rfl, ⟨rfl, ⟨rfl, ⟨rfl, trivial⟩⟩⟩⟩⟩⟩ ?_
      exact L306 _ (by omega) _ _ h
    · refine rg_aload_n (C _) dL_law_294 rfl ?_
      refine rg_iconst (C _) ic_0 dL_law_295 ?_
      refine rg_laload (C _) dL_law_296 ?_
      refine rg_iload (C _) dL_law_297 rfl ?_
      refine rg_i2l (C _) dL_law_299 ?_
      refine rg_lcmpeq (C _) (tgt := 306) h dL_law_300 (by decide) dL_law_301 (fun h => ?_) (fun h => ?_)
      · refine rg_weak (C _) [some (.inr 1000), some (.inr 0), some (.inr 124), some (.inr 155), some (.inr 156), some (.inl l5), none, none, none] ⟨rfl, ⟨rfl, ⟨rfl, ⟨rfl, ⟨rfl, ⟨rfl, trivial⟩⟩⟩⟩⟩⟩ ?_
        exact L306 _ (by omega) _ _ h
      · exact no_e h
  · exact no_e h
set_option maxHeartbeats 4000000 in
set_option maxRecDepth 100000 in
theorem law_K2 {l : Launch} {D : va_G} {ad : Nat → Nat} {cy : Nat → ClassId} {b L : Nat} {xs : Nat → Int32} {V : (Array Slot → Prop) → Vt} (hl : l.stackTraces = false) (hI : Inj ad) (A : RgA l D ad cy RL cL_law 9 20 10862 20000 [] (FL ad b L xs) V) {n : Nat} {r28 : Mem → Int32 → Option Unit} (ih28 : ∀ (κ : Nat), κ + 20 * n ≤ 20000 → ∀ (σ : Mem) (l5 : Int32), r28 σ l5 = some () → V pT κ σ 28 [some (.inr 1000), some (.inr 0), some (.inr 124), some (.inr 155), some (.inr 156), some (.inl l5), none, none, none] []) : ∀ (κ : Nat), κ + 20 * n + 20 ≤ 20000 → ∀ (σ : Mem) (l5 : Int32), fL_case2 L xs r28 σ l5 = some () → V pT κ σ 309 [some (.inr 1000), some (.inr 0), some (.inr 124), some (.inr 155), some (.inr 156), some (.inl l5), none, none, none] [] := by
  have C := rga_C A
  have L374 := law_L374 hl hI A ih28
  intro κ hκ σ l5 h
  refine rg_aload_n (C _) dL_law_309 rfl ?_
  refine rg_aload_n (C _) dL_law_310 rfl ?_
  refine rg_iload (C _) dL_law_311 rfl ?_
  refine rg_iconst (C _) ic_1 dL_law_313 ?_
  refine rg_iadd (C _) dL_law_314 ?_
  obtain ⟨hi, h⟩ := ck_e h
  refine rgl_sld (C _) hi dL_law_315 ?_
  refine rg_aload_n (C _) dL_law_316 rfl ?_
  refine rg_iload (C _) dL_law_317 rfl ?_
  refine rg_iconst (C _) ic_2 dL_law_319 ?_
  refine rg_iadd (C _) dL_law_320 ?_
  obtain ⟨hi, h⟩ := ck_e h
  refine rgl_sld (C _) hi dL_law_321 ?_
  refine rg_aload_n (C _) dL_law_322 rfl ?_
  refine bd_e h (fun v261 σ261 hf261 h => ?_)
  refine rg_callW (C _) gw_L_setDomain ml_L_149 (cL_setDomain_c hl hI hf261) rfl rfl (by exact Nat.le_of_ble_eq_true rfl) ⟨Nat.le_of_ble_eq_true rfl, Nat.le_of_ble_eq_true rfl, by omega⟩ dL_law_323 ?_
  refine rg_istore (C pT) (by decide) dL_law_326 ?_
  refine rg_aload_n (C _) dL_law_328 rfl ?_
  refine rg_aload_n (C _) dL_law_329 rfl ?_
  refine rg_iload (C _) dL_law_330 rfl ?_
  refine rg_iconst (C _) ic_1 dL_law_332 ?_
  refine rg_iadd (C _) dL_law_333 ?_
  obtain ⟨hi, h⟩ := ck_e h
  refine rgl_sld (C _) hi dL_law_334 ?_
  refine rg_aload_n (C _) dL_law_335 rfl ?_
  refine rg_iload (C _) dL_law_336 rfl ?_
  refine rg_iconst (C _) ic_2 dL_law_338 ?_
  refine rg_iadd (C _) dL_law_339 ?_
  obtain ⟨hi, h⟩ := ck_e h
  refine rgl_sld (C _) hi dL_law_340 ?_
  refine bd_e h (fun v262 σ262 hf262 h => ?_)
  refine rg_callV (C _) g_X10_setDomain hc_10 o_124 ml_L_152 (mX10_setDomain hl hI hf262) rfl rfl (by exact Nat.le_of_ble_eq_true rfl) ⟨Nat.le_of_ble_eq_true rfl, Nat.le_of_ble_eq_true rfl, by omega⟩ dL_law_341 ?_
  refine rg_istore (C pT) (by decide) dL_law_344 ?_
  refine rg_aload_n (C _) dL_law_346 rfl ?_
  refine bd_e h (fun v263 σ263 hf263 h => ?_)
  refine rg_callV (C _) g_X10_thrown hc_10 o_124 ml_L_146 (mX10_thrown hl hI hf263) rfl rfl (by exact Nat.le_of_ble_eq_true rfl) ⟨Nat.le_of_ble_eq_true rfl, Nat.le_of_ble_eq_true rfl, by omega⟩ dL_law_347 ?_
  refine rg_iload (C _) dL_law_350 rfl ?_
  refine rg_ic_eq (C _) (tgt := 357) h (by decide) dL_law_352 (fun hc h => ?_) (fun hc h => ?_)
  · refine rg_iload (C _) dL_law_357 rfl ?_
    refine rg_if_ne (C _) (tgt := 374) h (by decide) dL_law_359 (fun hc h => ?_) (fun hc h => ?_)
    · refine rg_weak (C _) [some (.inr 1000), some (.inr 0), some (.inr 124), some (.inr 155), some (.inr 156), some (.inl l5), none, none, none] ⟨rfl, ⟨rfl, ⟨rfl, ⟨rfl, ⟨rfl, ⟨rfl, trivial⟩⟩⟩⟩⟩⟩ ?_
      exact L374 _ (by omega) _ _ h
    · refine rg_aload_n (C _) dL_law_362 rfl ?_
      refine rg_iconst (C _) ic_0 dL_law_363 ?_
      refine rg_laload (C _) dL_law_364 ?_
      refine rg_iload (C _) dL_law_365 rfl ?_
      refine rg_i2l (C _) dL_law_367 ?_
      refine rg_lcmpeq (C _) (tgt := 374) h dL_law_368 (by decide) dL_law_369 (fun h => ?_) (fun h => ?_)
      · refine rg_weak (C _) [some (.inr 1000), some (.inr 0), some (.inr 124), some (.inr 155), some (.inr 156), some (.inl l5), none, none, none] ⟨rfl, ⟨rfl, ⟨rfl, ⟨rfl, ⟨rfl, ⟨rfl, trivial⟩⟩⟩⟩⟩⟩ ?_
        exact L374 _ (by omega) _ _ h
      · exact no_e h
  · exact no_e h
set_option maxHeartbeats 4000000 in
set_option maxRecDepth 100000 in
theorem law_K3 {l : Launch} {D : va_G} {ad : Nat → Nat} {cy : Nat → ClassId} {b L : Nat} {xs : Nat → Int32} {V : (Array Slot → Prop) → Vt} (hl : l.stackTraces = false) (hI : Inj ad) (A : RgA l D ad cy RL cL_law 9 20 10862 20000 [] (FL ad b L xs) V) {n : Nat} {r28 : Mem → Int32 → Option Unit} (ih28 : ∀ (κ : Nat), κ + 20 * n ≤ 20000 → ∀ (σ : Mem) (l5 : Int32), r28 σ l5 = some () → V pT κ σ 28 [some (.inr 1000), some (.inr 0), some (.inr 124), some (.inr 155), some (.inr 156), some (.inl l5), none, none, none] []) : ∀ (κ : Nat), κ + 20 * n + 20 ≤ 20000 → ∀ (σ : Mem) (l5 : Int32), fL_case3 L xs r28 σ l5 = some () → V pT κ σ 377 [some (.inr 1000), some (.inr 0), some (.inr 124), some (.inr 155), some (.inr 156), some (.inl l5), none, none, none] [] := by
  have C := rga_C A
  have L466 := law_L466 hl hI A ih28
  intro κ hκ σ l5 h
  refine rg_aload_n (C _) dL_law_377 rfl ?_
  refine rg_aload_n (C _) dL_law_378 rfl ?_
  refine rg_iload (C _) dL_law_379 rfl ?_
  refine rg_iconst (C _) ic_1 dL_law_381 ?_
  refine rg_iadd (C _) dL_law_382 ?_
  obtain ⟨hi, h⟩ := ck_e h
  refine rgl_sld (C _) hi dL_law_383 ?_
  refine rg_aload_n (C _) dL_law_384 rfl ?_
  refine rg_iload (C _) dL_law_385 rfl ?_
  refine rg_iconst (C _) ic_2 dL_law_387 ?_
  refine rg_iadd (C _) dL_law_388 ?_
  obtain ⟨hi, h⟩ := ck_e h
  refine rgl_sld (C _) hi dL_law_389 ?_
  refine rg_aload_n (C _) dL_law_390 rfl ?_
  refine rg_iload (C _) dL_law_391 rfl ?_
  refine rg_iconst (C _) ic_3 dL_law_393 ?_
  refine rg_iadd (C _) dL_law_394 ?_
  obtain ⟨hi, h⟩ := ck_e h
  refine rgl_sld (C _) hi dL_law_395 ?_
  refine rg_aload_n (C _) dL_law_396 rfl ?_
  refine rg_iload (C _) dL_law_397 rfl ?_
  refine rg_iconst (C _) ic_4 dL_law_399 ?_
  refine rg_iadd (C _) dL_law_400 ?_
  obtain ⟨hi, h⟩ := ck_e h
  refine rgl_sld (C _) hi dL_law_401 ?_
  refine rg_aload_n (C _) dL_law_402 rfl ?_
  refine bd_e h (fun v264 σ264 hf264 h => ?_)
  refine rg_callW (C _) gw_L_addConstraint ml_L_153 (cL_addConstraint_c hl hI hf264) rfl rfl (by exact Nat.le_of_ble_eq_true rfl) ⟨Nat.le_of_ble_eq_true rfl, Nat.le_of_ble_eq_true rfl, by omega⟩ dL_law_403 ?_
  refine rg_istore (C pT) (by decide) dL_law_406 ?_
  refine rg_aload_n (C _) dL_law_408 rfl ?_
  refine rg_aload_n (C _) dL_law_409 rfl ?_
  refine rg_iload (C _) dL_law_410 rfl ?_
  refine rg_iconst (C _) ic_1 dL_law_412 ?_
  refine rg_iadd (C _) dL_law_413 ?_
  obtain ⟨hi, h⟩ := ck_e h
  refine rgl_sld (C _) hi dL_law_414 ?_
  refine rg_aload_n (C _) dL_law_415 rfl ?_
  refine rg_iload (C _) dL_law_416 rfl ?_
  refine rg_iconst (C _) ic_2 dL_law_418 ?_
  refine rg_iadd (C _) dL_law_419 ?_
  obtain ⟨hi, h⟩ := ck_e h
  refine rgl_sld (C _) hi dL_law_420 ?_
  refine rg_aload_n (C _) dL_law_421 rfl ?_
  refine rg_iload (C _) dL_law_422 rfl ?_
  refine rg_iconst (C _) ic_3 dL_law_424 ?_
  refine rg_iadd (C _) dL_law_425 ?_
  obtain ⟨hi, h⟩ := ck_e h
  refine rgl_sld (C _) hi dL_law_426 ?_
  refine rg_aload_n (C _) dL_law_427 rfl ?_
  refine rg_iload (C _) dL_law_428 rfl ?_
  refine rg_iconst (C _) ic_4 dL_law_430 ?_
  refine rg_iadd (C _) dL_law_431 ?_
  obtain ⟨hi, h⟩ := ck_e h
  refine rgl_sld (C _) hi dL_law_432 ?_
  refine bd_e h (fun v265 σ265 hf265 h => ?_)
  refine rg_callV (C _) g_X10_addConstraint hc_10 o_124 ml_L_156 (mX10_addConstraint hl hI hf265) rfl rfl (by exact Nat.le_of_ble_eq_true rfl) ⟨Nat.le_of_ble_eq_true rfl, Nat.le_of_ble_eq_true rfl, by omega⟩ dL_law_433 ?_
  refine rg_istore (C pT) (by decide) dL_law_436 ?_
  refine rg_aload_n (C _) dL_law_438 rfl ?_
  refine bd_e h (fun v266 σ266 hf266 h => ?_)
  refine rg_callV (C _) g_X10_thrown hc_10 o_124 ml_L_146 (mX10_thrown hl hI hf266) rfl rfl (by exact Nat.le_of_ble_eq_true rfl) ⟨Nat.le_of_ble_eq_true rfl, Nat.le_of_ble_eq_true rfl, by omega⟩ dL_law_439 ?_
  refine rg_iload (C _) dL_law_442 rfl ?_
  refine rg_ic_eq (C _) (tgt := 449) h (by decide) dL_law_444 (fun hc h => ?_) (fun hc h => ?_)
  · refine rg_iload (C _) dL_law_449 rfl ?_
    refine rg_if_ne (C _) (tgt := 466) h (by decide) dL_law_451 (fun hc h => ?_) (fun hc h => ?_)
    · refine rg_weak (C _) [some (.inr 1000), some (.inr 0), some (.inr 124), some (.inr 155), some (.inr 156), some (.inl l5), none, none, none] ⟨rfl, ⟨rfl, ⟨rfl, ⟨rfl, ⟨rfl, ⟨rfl, trivial⟩⟩⟩⟩⟩⟩ ?_
      exact L466 _ (by omega) _ _ h
    · refine rg_aload_n (C _) dL_law_454 rfl ?_
      refine rg_iconst (C _) ic_0 dL_law_455 ?_
      refine rg_laload (C _) dL_law_456 ?_
      refine rg_iload (C _) dL_law_457 rfl ?_
      refine rg_i2l (C _) dL_law_459 ?_
      refine rg_lcmpeq (C _) (tgt := 466) h dL_law_460 (by decide) dL_law_461 (fun h => ?_) (fun h => ?_)
      · refine rg_weak (C _) [some (.inr 1000), some (.inr 0), some (.inr 124), some (.inr 155), some (.inr 156), some (.inl l5), none, none, none] ⟨rfl, ⟨rfl, ⟨rfl, ⟨rfl, ⟨rfl, ⟨rfl, trivial⟩⟩⟩⟩⟩⟩ ?_
        exact L466 _ (by omega) _ _ h
      · exact no_e h
  · exact no_e h
set_option maxHeartbeats 4000000 in
set_option maxRecDepth 100000 in
theorem law_K4 {l : Launch} {D : va_G} {ad : Nat → Nat} {cy : Nat → ClassId} {b L : Nat} {xs : Nat → Int32} {V : (Array Slot → Prop) → Vt} (hl : l.stackTraces = false) (hI : Inj ad) (A : RgA l D ad cy RL cL_law 9 20 10862 20000 [] (FL ad b L xs) V) {n : Nat} {r28 : Mem → Int32 → Option Unit} (ih28 : ∀ (κ : Nat), κ + 20 * n ≤ 20000 → ∀ (σ : Mem) (l5 : Int32), r28 σ l5 = some () → V pT κ σ 28 [some (.inr 1000), some (.inr 0), some (.inr 124), some (.inr 155), some (.inr 156), some (.inl l5), none, none, none] []) : ∀ (κ : Nat), κ + 20 * n + 20 ≤ 20000 → ∀ (σ : Mem) (l5 : Int32), fL_case4 L xs r28 σ l5 = some () → V pT κ σ 469 [some (.inr 1000), some (.inr 0), some (.inr 124), some (.inr 155), some (.inr 156), some (.inl l5), none, none, none] [] := by
  have C := rga_C A
  have L522 := law_L522 hl hI A ih28
  intro κ hκ σ l5 h
  refine rg_aload_n (C _) dL_law_469 rfl ?_
  refine rg_aload_n (C _) dL_law_470 rfl ?_
  refine rg_iload (C _) dL_law_471 rfl ?_
  refine rg_iconst (C _) ic_1 dL_law_473 ?_
  refine rg_iadd (C _) dL_law_474 ?_
  obtain ⟨hi, h⟩ := ck_e h
  refine rgl_sld (C _) hi dL_law_475 ?_
  refine rg_aload_n (C _) dL_law_476 rfl ?_
  refine bd_e h (fun v267 σ267 hf267 h => ?_)
  refine rg_callW (C _) gw_L_removeConstraint ml_L_157 (cL_removeConstraint_c hl hI hf267) rfl rfl (by exact Nat.le_of_ble_eq_true rfl) ⟨Nat.le_of_ble_eq_true rfl, Nat.le_of_ble_eq_true rfl, by omega⟩ dL_law_477 ?_
  refine rg_istore (C pT) (by decide) dL_law_480 ?_
  refine rg_aload_n (C _) dL_law_482 rfl ?_
  refine rg_aload_n (C _) dL_law_483 rfl ?_
  refine rg_iload (C _) dL_law_484 rfl ?_
  refine rg_iconst (C _) ic_1 dL_law_486 ?_
  refine rg_iadd (C _) dL_law_487 ?_
  obtain ⟨hi, h⟩ := ck_e h
  refine rgl_sld (C _) hi dL_law_488 ?_
  refine bd_e h (fun v268 σ268 hf268 h => ?_)
  refine rg_callV (C _) g_X10_removeConstraint hc_10 o_124 ml_L_159 (mX10_removeConstraint hl hI hf268) rfl rfl (by exact Nat.le_of_ble_eq_true rfl) ⟨Nat.le_of_ble_eq_true rfl, Nat.le_of_ble_eq_true rfl, by omega⟩ dL_law_489 ?_
  refine rg_istore (C pT) (by decide) dL_law_492 ?_
  refine rg_aload_n (C _) dL_law_494 rfl ?_
  refine bd_e h (fun v269 σ269 hf269 h => ?_)
  refine rg_callV (C _) g_X10_thrown hc_10 o_124 ml_L_146 (mX10_thrown hl hI hf269) rfl rfl (by exact Nat.le_of_ble_eq_true rfl) ⟨Nat.le_of_ble_eq_true rfl, Nat.le_of_ble_eq_true rfl, by omega⟩ dL_law_495 ?_
  refine rg_iload (C _) dL_law_498 rfl ?_
  refine rg_ic_eq (C _) (tgt := 505) h (by decide) dL_law_500 (fun hc h => ?_) (fun hc h => ?_)
  · refine rg_iload (C _) dL_law_505 rfl ?_
    refine rg_if_ne (C _) (tgt := 522) h (by decide) dL_law_507 (fun hc h => ?_) (fun hc h => ?_)
    · refine rg_weak (C _) [some (.inr 1000), some (.inr 0), some (.inr 124), some (.inr 155), some (.inr 156), some (.inl l5), none, none, none] ⟨rfl, ⟨rfl, ⟨rfl, ⟨rfl, ⟨rfl, ⟨rfl, trivial⟩⟩⟩⟩⟩⟩ ?_
      exact L522 _ (by omega) _ _ h
    · refine rg_aload_n (C _) dL_law_510 rfl ?_
      refine rg_iconst (C _) ic_0 dL_law_511 ?_
      refine rg_laload (C _) dL_law_512 ?_
      refine rg_iload (C _) dL_law_513 rfl ?_
      refine rg_i2l (C _) dL_law_515 ?_
      refine rg_lcmpeq (C _) (tgt := 522) h dL_law_516 (by decide) dL_law_517 (fun h => ?_) (fun h => ?_)
      · refine rg_weak (C _) [some (.inr 1000), some (.inr 0), some (.inr 124), some (.inr 155), some (.inr 156), some (.inl l5), none, none, none] ⟨rfl, ⟨rfl, ⟨rfl, ⟨rfl, ⟨rfl, ⟨rfl, trivial⟩⟩⟩⟩⟩⟩ ?_
        exact L522 _ (by omega) _ _ h
      · exact no_e h
  · exact no_e h
set_option maxHeartbeats 4000000 in
set_option maxRecDepth 100000 in
theorem law_K5 {l : Launch} {D : va_G} {ad : Nat → Nat} {cy : Nat → ClassId} {b L : Nat} {xs : Nat → Int32} {V : (Array Slot → Prop) → Vt} (hl : l.stackTraces = false) (hI : Inj ad) (A : RgA l D ad cy RL cL_law 9 20 10862 20000 [] (FL ad b L xs) V) {n : Nat} {r28 : Mem → Int32 → Option Unit} (ih28 : ∀ (κ : Nat), κ + 20 * n ≤ 20000 → ∀ (σ : Mem) (l5 : Int32), r28 σ l5 = some () → V pT κ σ 28 [some (.inr 1000), some (.inr 0), some (.inr 124), some (.inr 155), some (.inr 156), some (.inl l5), none, none, none] []) : ∀ (κ : Nat), κ + 20 * n + 20 ≤ 20000 → ∀ (σ : Mem) (l5 : Int32), fL_case5 L xs r28 σ l5 = some () → V pT κ σ 525 [some (.inr 1000), some (.inr 0), some (.inr 124), some (.inr 155), some (.inr 156), some (.inl l5), none, none, none] [] := by
  have C := rga_C A
  have L590 := law_L590 hl hI A ih28
  intro κ hκ σ l5 h
  refine rg_aload_n (C _) dL_law_525 rfl ?_
  refine rg_aload_n (C _) dL_law_526 rfl ?_
  refine rg_iload (C _) dL_law_527 rfl ?_
  refine rg_iconst (C _) ic_1 dL_law_529 ?_
  refine rg_iadd (C _) dL_law_530 ?_
  obtain ⟨hi, h⟩ := ck_e h
  refine rgl_sld (C _) hi dL_law_531 ?_
  refine rg_aload_n (C _) dL_law_532 rfl ?_
  refine rg_iload (C _) dL_law_533 rfl ?_
  refine rg_iconst (C _) ic_2 dL_law_535 ?_
  refine rg_iadd (C _) dL_law_536 ?_
  obtain ⟨hi, h⟩ := ck_e h
  refine rgl_sld (C _) hi dL_law_537 ?_
  refine rg_aload_n (C _) dL_law_538 rfl ?_
  refine bd_e h (fun v270 σ270 hf270 h => ?_)
  refine rg_callW (C _) gw_L_setWeight ml_L_160 (cL_setWeight_c hl hI hf270) rfl rfl (by exact Nat.le_of_ble_eq_true rfl) ⟨Nat.le_of_ble_eq_true rfl, Nat.le_of_ble_eq_true rfl, by omega⟩ dL_law_539 ?_
  refine rg_istore (C pT) (by decide) dL_law_542 ?_
  refine rg_aload_n (C _) dL_law_544 rfl ?_
  refine rg_aload_n (C _) dL_law_545 rfl ?_
  refine rg_iload (C _) dL_law_546 rfl ?_
  refine rg_iconst (C _) ic_1 dL_law_548 ?_
  refine rg_iadd (C _) dL_law_549 ?_
  obtain ⟨hi, h⟩ := ck_e h
  refine rgl_sld (C _) hi dL_law_550 ?_
  refine rg_aload_n (C _) dL_law_551 rfl ?_
  refine rg_iload (C _) dL_law_552 rfl ?_
  refine rg_iconst (C _) ic_2 dL_law_554 ?_
  refine rg_iadd (C _) dL_law_555 ?_
  obtain ⟨hi, h⟩ := ck_e h
  refine rgl_sld (C _) hi dL_law_556 ?_
  refine bd_e h (fun v271 σ271 hf271 h => ?_)
  refine rg_callV (C _) g_X10_setWeight hc_10 o_124 ml_L_162 (mX10_setWeight hl hI hf271) rfl rfl (by exact Nat.le_of_ble_eq_true rfl) ⟨Nat.le_of_ble_eq_true rfl, Nat.le_of_ble_eq_true rfl, by omega⟩ dL_law_557 ?_
  refine rg_istore (C pT) (by decide) dL_law_560 ?_
  refine rg_aload_n (C _) dL_law_562 rfl ?_
  refine bd_e h (fun v272 σ272 hf272 h => ?_)
  refine rg_callV (C _) g_X10_thrown hc_10 o_124 ml_L_146 (mX10_thrown hl hI hf272) rfl rfl (by exact Nat.le_of_ble_eq_true rfl) ⟨Nat.le_of_ble_eq_true rfl, Nat.le_of_ble_eq_true rfl, by omega⟩ dL_law_563 ?_
  refine rg_iload (C _) dL_law_566 rfl ?_
  refine rg_ic_eq (C _) (tgt := 573) h (by decide) dL_law_568 (fun hc h => ?_) (fun hc h => ?_)
  · refine rg_iload (C _) dL_law_573 rfl ?_
    refine rg_if_ne (C _) (tgt := 590) h (by decide) dL_law_575 (fun hc h => ?_) (fun hc h => ?_)
    · refine rg_weak (C _) [some (.inr 1000), some (.inr 0), some (.inr 124), some (.inr 155), some (.inr 156), some (.inl l5), none, none, none] ⟨rfl, ⟨rfl, ⟨rfl, ⟨rfl, ⟨rfl, ⟨rfl, trivial⟩⟩⟩⟩⟩⟩ ?_
      exact L590 _ (by omega) _ _ h
    · refine rg_aload_n (C _) dL_law_578 rfl ?_
      refine rg_iconst (C _) ic_0 dL_law_579 ?_
      refine rg_laload (C _) dL_law_580 ?_
      refine rg_iload (C _) dL_law_581 rfl ?_
      refine rg_i2l (C _) dL_law_583 ?_
      refine rg_lcmpeq (C _) (tgt := 590) h dL_law_584 (by decide) dL_law_585 (fun h => ?_) (fun h => ?_)
      · refine rg_weak (C _) [some (.inr 1000), some (.inr 0), some (.inr 124), some (.inr 155), some (.inr 156), some (.inl l5), none, none, none] ⟨rfl, ⟨rfl, ⟨rfl, ⟨rfl, ⟨rfl, ⟨rfl, trivial⟩⟩⟩⟩⟩⟩ ?_
        exact L590 _ (by omega) _ _ h
      · exact no_e h
  · exact no_e h
set_option maxHeartbeats 4000000 in
set_option maxRecDepth 100000 in
theorem law_K6 {l : Launch} {D : va_G} {ad : Nat → Nat} {cy : Nat → ClassId} {b L : Nat} {xs : Nat → Int32} {V : (Array Slot → Prop) → Vt} (hl : l.stackTraces = false) (hI : Inj ad) (A : RgA l D ad cy RL cL_law 9 20 10862 20000 [] (FL ad b L xs) V) {n : Nat} {r28 : Mem → Int32 → Option Unit} (ih28 : ∀ (κ : Nat), κ + 20 * n ≤ 20000 → ∀ (σ : Mem) (l5 : Int32), r28 σ l5 = some () → V pT κ σ 28 [some (.inr 1000), some (.inr 0), some (.inr 124), some (.inr 155), some (.inr 156), some (.inl l5), none, none, none] []) : ∀ (κ : Nat), κ + 20 * n + 20 ≤ 20000 → ∀ (σ : Mem) (l5 : Int32), fL_case6 L xs r28 σ l5 = some () → V pT κ σ 593 [some (.inr 1000), some (.inr 0), some (.inr 124), some (.inr 155), some (.inr 156), some (.inl l5), none, none, none] [] := by
  have C := rga_C A
  have L658 := law_L658 hl hI A ih28
  intro κ hκ σ l5 h
  refine rg_aload_n (C _) dL_law_593 rfl ?_
  refine rg_aload_n (C _) dL_law_594 rfl ?_
  refine rg_iload (C _) dL_law_595 rfl ?_
  refine rg_iconst (C _) ic_1 dL_law_597 ?_
  refine rg_iadd (C _) dL_law_598 ?_
  obtain ⟨hi, h⟩ := ck_e h
  refine rgl_sld (C _) hi dL_law_599 ?_
  refine rg_aload_n (C _) dL_law_600 rfl ?_
  refine rg_iload (C _) dL_law_601 rfl ?_
  refine rg_iconst (C _) ic_2 dL_law_603 ?_
  refine rg_iadd (C _) dL_law_604 ?_
  obtain ⟨hi, h⟩ := ck_e h
  refine rgl_sld (C _) hi dL_law_605 ?_
  refine rg_aload_n (C _) dL_law_606 rfl ?_
  refine bd_e h (fun v273 σ273 hf273 h => ?_)
  refine rg_callW (C _) gw_L_setValue ml_L_163 (cL_setValue_c hl hI hf273) rfl rfl (by exact Nat.le_of_ble_eq_true rfl) ⟨Nat.le_of_ble_eq_true rfl, Nat.le_of_ble_eq_true rfl, by omega⟩ dL_law_607 ?_
  refine rg_istore (C pT) (by decide) dL_law_610 ?_
  refine rg_aload_n (C _) dL_law_612 rfl ?_
  refine rg_aload_n (C _) dL_law_613 rfl ?_
  refine rg_iload (C _) dL_law_614 rfl ?_
  refine rg_iconst (C _) ic_1 dL_law_616 ?_
  refine rg_iadd (C _) dL_law_617 ?_
  obtain ⟨hi, h⟩ := ck_e h
  refine rgl_sld (C _) hi dL_law_618 ?_
  refine rg_aload_n (C _) dL_law_619 rfl ?_
  refine rg_iload (C _) dL_law_620 rfl ?_
  refine rg_iconst (C _) ic_2 dL_law_622 ?_
  refine rg_iadd (C _) dL_law_623 ?_
  obtain ⟨hi, h⟩ := ck_e h
  refine rgl_sld (C _) hi dL_law_624 ?_
  refine bd_e h (fun v274 σ274 hf274 h => ?_)
  refine rg_callV (C _) g_X10_setValue hc_10 o_124 ml_L_165 (mX10_setValue hl hI hf274) rfl rfl (by exact Nat.le_of_ble_eq_true rfl) ⟨Nat.le_of_ble_eq_true rfl, Nat.le_of_ble_eq_true rfl, by omega⟩ dL_law_625 ?_
  refine rg_istore (C pT) (by decide) dL_law_628 ?_
  refine rg_aload_n (C _) dL_law_630 rfl ?_
  refine bd_e h (fun v275 σ275 hf275 h => ?_)
  refine rg_callV (C _) g_X10_thrown hc_10 o_124 ml_L_146 (mX10_thrown hl hI hf275) rfl rfl (by exact Nat.le_of_ble_eq_true rfl) ⟨Nat.le_of_ble_eq_true rfl, Nat.le_of_ble_eq_true rfl, by omega⟩ dL_law_631 ?_
  refine rg_iload (C _) dL_law_634 rfl ?_
  refine rg_ic_eq (C _) (tgt := 641) h (by decide) dL_law_636 (fun hc h => ?_) (fun hc h => ?_)
  · refine rg_iload (C _) dL_law_641 rfl ?_
    refine rg_if_ne (C _) (tgt := 658) h (by decide) dL_law_643 (fun hc h => ?_) (fun hc h => ?_)
    · refine rg_weak (C _) [some (.inr 1000), some (.inr 0), some (.inr 124), some (.inr 155), some (.inr 156), some (.inl l5), none, none, none] ⟨rfl, ⟨rfl, ⟨rfl, ⟨rfl, ⟨rfl, ⟨rfl, trivial⟩⟩⟩⟩⟩⟩ ?_
      exact L658 _ (by omega) _ _ h
    · refine rg_aload_n (C _) dL_law_646 rfl ?_
      refine rg_iconst (C _) ic_0 dL_law_647 ?_
      refine rg_laload (C _) dL_law_648 ?_
      refine rg_iload (C _) dL_law_649 rfl ?_
      refine rg_i2l (C _) dL_law_651 ?_
      refine rg_lcmpeq (C _) (tgt := 658) h dL_law_652 (by decide) dL_law_653 (fun h => ?_) (fun h => ?_)
      · refine rg_weak (C _) [some (.inr 1000), some (.inr 0), some (.inr 124), some (.inr 155), some (.inr 156), some (.inl l5), none, none, none] ⟨rfl, ⟨rfl, ⟨rfl, ⟨rfl, ⟨rfl, ⟨rfl, trivial⟩⟩⟩⟩⟩⟩ ?_
        exact L658 _ (by omega) _ _ h
      · exact no_e h
  · exact no_e h
set_option maxHeartbeats 4000000 in
set_option maxRecDepth 100000 in
theorem law_K7 {l : Launch} {D : va_G} {ad : Nat → Nat} {cy : Nat → ClassId} {b L : Nat} {xs : Nat → Int32} {V : (Array Slot → Prop) → Vt} (hl : l.stackTraces = false) (hI : Inj ad) (A : RgA l D ad cy RL cL_law 9 20 10862 20000 [] (FL ad b L xs) V) {n : Nat} {r28 : Mem → Int32 → Option Unit} (ih28 : ∀ (κ : Nat), κ + 20 * n ≤ 20000 → ∀ (σ : Mem) (l5 : Int32), r28 σ l5 = some () → V pT κ σ 28 [some (.inr 1000), some (.inr 0), some (.inr 124), some (.inr 155), some (.inr 156), some (.inl l5), none, none, none] []) : ∀ (κ : Nat), κ + 20 * n + 20 ≤ 20000 → ∀ (σ : Mem) (l5 : Int32), fL_case7 L xs r28 σ l5 = some () → V pT κ σ 661 [some (.inr 1000), some (.inr 0), some (.inr 124), some (.inr 155), some (.inr 156), some (.inl l5), none, none, none] [] := by
  have C := rga_C A
  have L714 := law_L714 hl hI A ih28
  intro κ hκ σ l5 h
  refine rg_aload_n (C _) dL_law_661 rfl ?_
  refine rg_aload_n (C _) dL_law_662 rfl ?_
  refine rg_iload (C _) dL_law_663 rfl ?_
  refine rg_iconst (C _) ic_1 dL_law_665 ?_
  refine rg_iadd (C _) dL_law_666 ?_
  obtain ⟨hi, h⟩ := ck_e h
  refine rgl_sld (C _) hi dL_law_667 ?_
  refine rg_aload_n (C _) dL_law_668 rfl ?_
  refine bd_e h (fun v276 σ276 hf276 h => ?_)
  refine rg_callW (C _) gw_L_count ml_L_166 (cL_count_c hl hI hf276) rfl rfl (by exact Nat.le_of_ble_eq_true rfl) ⟨Nat.le_of_ble_eq_true rfl, Nat.le_of_ble_eq_true rfl, by omega⟩ dL_law_669 ?_
  refine rg_istore (C pT) (by decide) dL_law_672 ?_
  refine rg_aload_n (C _) dL_law_674 rfl ?_
  refine rg_aload_n (C _) dL_law_675 rfl ?_
  refine rg_iload (C _) dL_law_676 rfl ?_
  refine rg_iconst (C _) ic_1 dL_law_678 ?_
  refine rg_iadd (C _) dL_law_679 ?_
  obtain ⟨hi, h⟩ := ck_e h
  refine rgl_sld (C _) hi dL_law_680 ?_
  refine bd_e h (fun v277 σ277 hf277 h => ?_)
  refine rg_callV (C _) g_X10_count hc_10 o_124 ml_L_168 (mX10_count hl hI hf277) rfl rfl (by exact Nat.le_of_ble_eq_true rfl) ⟨Nat.le_of_ble_eq_true rfl, Nat.le_of_ble_eq_true rfl, by omega⟩ dL_law_681 ?_
  refine rg_istore (C pT) (by decide) dL_law_684 ?_
  refine rg_aload_n (C _) dL_law_686 rfl ?_
  refine bd_e h (fun v278 σ278 hf278 h => ?_)
  refine rg_callV (C _) g_X10_thrown hc_10 o_124 ml_L_146 (mX10_thrown hl hI hf278) rfl rfl (by exact Nat.le_of_ble_eq_true rfl) ⟨Nat.le_of_ble_eq_true rfl, Nat.le_of_ble_eq_true rfl, by omega⟩ dL_law_687 ?_
  refine rg_iload (C _) dL_law_690 rfl ?_
  refine rg_ic_eq (C _) (tgt := 697) h (by decide) dL_law_692 (fun hc h => ?_) (fun hc h => ?_)
  · refine rg_iload (C _) dL_law_697 rfl ?_
    refine rg_if_ne (C _) (tgt := 714) h (by decide) dL_law_699 (fun hc h => ?_) (fun hc h => ?_)
    · refine rg_weak (C _) [some (.inr 1000), some (.inr 0), some (.inr 124), some (.inr 155), some (.inr 156), some (.inl l5), none, none, none] ⟨rfl, ⟨rfl, ⟨rfl, ⟨rfl, ⟨rfl, ⟨rfl, trivial⟩⟩⟩⟩⟩⟩ ?_
      exact L714 _ (by omega) _ _ h
    · refine rg_aload_n (C _) dL_law_702 rfl ?_
      refine rg_iconst (C _) ic_0 dL_law_703 ?_
      refine rg_laload (C _) dL_law_704 ?_
      refine rg_iload (C _) dL_law_705 rfl ?_
      refine rg_i2l (C _) dL_law_707 ?_
      refine rg_lcmpeq (C _) (tgt := 714) h dL_law_708 (by decide) dL_law_709 (fun h => ?_) (fun h => ?_)
      · refine rg_weak (C _) [some (.inr 1000), some (.inr 0), some (.inr 124), some (.inr 155), some (.inr 156), some (.inl l5), none, none, none] ⟨rfl, ⟨rfl, ⟨rfl, ⟨rfl, ⟨rfl, ⟨rfl, trivial⟩⟩⟩⟩⟩⟩ ?_
        exact L714 _ (by omega) _ _ h
      · exact no_e h
  · exact no_e h
set_option maxHeartbeats 4000000 in
set_option maxRecDepth 100000 in
theorem law_K8 {l : Launch} {D : va_G} {ad : Nat → Nat} {cy : Nat → ClassId} {b L : Nat} {xs : Nat → Int32} {V : (Array Slot → Prop) → Vt} (hl : l.stackTraces = false) (hI : Inj ad) (A : RgA l D ad cy RL cL_law 9 20 10862 20000 [] (FL ad b L xs) V) {n : Nat} {r28 : Mem → Int32 → Option Unit} (ih28 : ∀ (κ : Nat), κ + 20 * n ≤ 20000 → ∀ (σ : Mem) (l5 : Int32), r28 σ l5 = some () → V pT κ σ 28 [some (.inr 1000), some (.inr 0), some (.inr 124), some (.inr 155), some (.inr 156), some (.inl l5), none, none, none] []) : ∀ (κ : Nat), κ + 20 * n + 20 ≤ 20000 → ∀ (σ : Mem) (l5 : Int32), fL_case8 L xs r28 σ l5 = some () → V pT κ σ 717 [some (.inr 1000), some (.inr 0), some (.inr 124), some (.inr 155), some (.inr 156), some (.inl l5), none, none, none] [] := by
  have C := rga_C A
  have L782 := law_L782 hl hI A ih28
  intro κ hκ σ l5 h
  refine rg_aload_n (C _) dL_law_717 rfl ?_
  refine rg_aload_n (C _) dL_law_718 rfl ?_
  refine rg_iload (C _) dL_law_719 rfl ?_
  refine rg_iconst (C _) ic_1 dL_law_721 ?_
  refine rg_iadd (C _) dL_law_722 ?_
  obtain ⟨hi, h⟩ := ck_e h
  refine rgl_sld (C _) hi dL_law_723 ?_
  refine rg_aload_n (C _) dL_law_724 rfl ?_
  refine rg_iload (C _) dL_law_725 rfl ?_
  refine rg_iconst (C _) ic_2 dL_law_727 ?_
  refine rg_iadd (C _) dL_law_728 ?_
  obtain ⟨hi, h⟩ := ck_e h
  refine rgl_sld (C _) hi dL_law_729 ?_
  refine rg_aload_n (C _) dL_law_730 rfl ?_
  refine bd_e h (fun v279 σ279 hf279 h => ?_)
  refine rg_callW (C _) gw_L_constraint ml_L_169 (cL_constraint_c hl hI hf279) rfl rfl (by exact Nat.le_of_ble_eq_true rfl) ⟨Nat.le_of_ble_eq_true rfl, Nat.le_of_ble_eq_true rfl, by omega⟩ dL_law_731 ?_
  refine rg_istore (C pT) (by decide) dL_law_734 ?_
  refine rg_aload_n (C _) dL_law_736 rfl ?_
  refine rg_aload_n (C _) dL_law_737 rfl ?_
  refine rg_iload (C _) dL_law_738 rfl ?_
  refine rg_iconst (C _) ic_1 dL_law_740 ?_
  refine rg_iadd (C _) dL_law_741 ?_
  obtain ⟨hi, h⟩ := ck_e h
  refine rgl_sld (C _) hi dL_law_742 ?_
  refine rg_aload_n (C _) dL_law_743 rfl ?_
  refine rg_iload (C _) dL_law_744 rfl ?_
  refine rg_iconst (C _) ic_2 dL_law_746 ?_
  refine rg_iadd (C _) dL_law_747 ?_
  obtain ⟨hi, h⟩ := ck_e h
  refine rgl_sld (C _) hi dL_law_748 ?_
  refine bd_e h (fun v280 σ280 hf280 h => ?_)
  refine rg_callV (C _) g_X10_constraint hc_10 o_124 ml_L_171 (mX10_constraint hl hI hf280) rfl rfl (by exact Nat.le_of_ble_eq_true rfl) ⟨Nat.le_of_ble_eq_true rfl, Nat.le_of_ble_eq_true rfl, by omega⟩ dL_law_749 ?_
  refine rg_istore (C pT) (by decide) dL_law_752 ?_
  refine rg_aload_n (C _) dL_law_754 rfl ?_
  refine bd_e h (fun v281 σ281 hf281 h => ?_)
  refine rg_callV (C _) g_X10_thrown hc_10 o_124 ml_L_146 (mX10_thrown hl hI hf281) rfl rfl (by exact Nat.le_of_ble_eq_true rfl) ⟨Nat.le_of_ble_eq_true rfl, Nat.le_of_ble_eq_true rfl, by omega⟩ dL_law_755 ?_
  refine rg_iload (C _) dL_law_758 rfl ?_
  refine rg_ic_eq (C _) (tgt := 765) h (by decide) dL_law_760 (fun hc h => ?_) (fun hc h => ?_)
  · refine rg_iload (C _) dL_law_765 rfl ?_
    refine rg_if_ne (C _) (tgt := 782) h (by decide) dL_law_767 (fun hc h => ?_) (fun hc h => ?_)
    · refine rg_weak (C _) [some (.inr 1000), some (.inr 0), some (.inr 124), some (.inr 155), some (.inr 156), some (.inl l5), none, none, none] ⟨rfl, ⟨rfl, ⟨rfl, ⟨rfl, ⟨rfl, ⟨rfl, trivial⟩⟩⟩⟩⟩⟩ ?_
      exact L782 _ (by omega) _ _ h
    · refine rg_aload_n (C _) dL_law_770 rfl ?_
      refine rg_iconst (C _) ic_0 dL_law_771 ?_
      refine rg_laload (C _) dL_law_772 ?_
      refine rg_iload (C _) dL_law_773 rfl ?_
      refine rg_i2l (C _) dL_law_775 ?_
      refine rg_lcmpeq (C _) (tgt := 782) h dL_law_776 (by decide) dL_law_777 (fun h => ?_) (fun h => ?_)
      · refine rg_weak (C _) [some (.inr 1000), some (.inr 0), some (.inr 124), some (.inr 155), some (.inr 156), some (.inl l5), none, none, none] ⟨rfl, ⟨rfl, ⟨rfl, ⟨rfl, ⟨rfl, ⟨rfl, trivial⟩⟩⟩⟩⟩⟩ ?_
        exact L782 _ (by omega) _ _ h
      · exact no_e h
  · exact no_e h
set_option maxHeartbeats 4000000 in
set_option maxRecDepth 100000 in
theorem law_K9 {l : Launch} {D : va_G} {ad : Nat → Nat} {cy : Nat → ClassId} {b L : Nat} {xs : Nat → Int32} {V : (Array Slot → Prop) → Vt} (hl : l.stackTraces = false) (hI : Inj ad) (A : RgA l D ad cy RL cL_law 9 20 10862 20000 [] (FL ad b L xs) V) {n : Nat} {r28 : Mem → Int32 → Option Unit} (ih28 : ∀ (κ : Nat), κ + 20 * n ≤ 20000 → ∀ (σ : Mem) (l5 : Int32), r28 σ l5 = some () → V pT κ σ 28 [some (.inr 1000), some (.inr 0), some (.inr 124), some (.inr 155), some (.inr 156), some (.inl l5), none, none, none] []) : ∀ (κ : Nat), κ + 20 * n + 20 ≤ 20000 → ∀ (σ : Mem) (l5 : Int32), fL_case9 L xs r28 σ l5 = some () → V pT κ σ 785 [some (.inr 1000), some (.inr 0), some (.inr 124), some (.inr 155), some (.inr 156), some (.inl l5), none, none, none] [] := by
  have C := rga_C A
  have L850 := law_L850 hl hI A ih28
  intro κ hκ σ l5 h
  refine rg_aload_n (C _) dL_law_785 rfl ?_
  refine rg_aload_n (C _) dL_law_786 rfl ?_
  refine rg_iload (C _) dL_law_787 rfl ?_
  refine rg_iconst (C _) ic_1 dL_law_789 ?_
  refine rg_iadd (C _) dL_law_790 ?_
  obtain ⟨hi, h⟩ := ck_e h
  refine rgl_sld (C _) hi dL_law_791 ?_
  refine rg_aload_n (C _) dL_law_792 rfl ?_
  refine rg_iload (C _) dL_law_793 rfl ?_
  refine rg_iconst (C _) ic_2 dL_law_795 ?_
  refine rg_iadd (C _) dL_law_796 ?_
  obtain ⟨hi, h⟩ := ck_e h
  refine rgl_sld (C _) hi dL_law_797 ?_
  refine rg_aload_n (C _) dL_law_798 rfl ?_
  refine bd_e h (fun v282 σ282 hf282 h => ?_)
  refine rg_callW (C _) gw_L_variable ml_L_172 (cL_variable_c hl hI hf282) rfl rfl (by exact Nat.le_of_ble_eq_true rfl) ⟨Nat.le_of_ble_eq_true rfl, Nat.le_of_ble_eq_true rfl, by omega⟩ dL_law_799 ?_
  refine rg_istore (C pT) (by decide) dL_law_802 ?_
  refine rg_aload_n (C _) dL_law_804 rfl ?_
  refine rg_aload_n (C _) dL_law_805 rfl ?_
  refine rg_iload (C _) dL_law_806 rfl ?_
  refine rg_iconst (C _) ic_1 dL_law_808 ?_
  refine rg_iadd (C _) dL_law_809 ?_
  obtain ⟨hi, h⟩ := ck_e h
  refine rgl_sld (C _) hi dL_law_810 ?_
  refine rg_aload_n (C _) dL_law_811 rfl ?_
  refine rg_iload (C _) dL_law_812 rfl ?_
  refine rg_iconst (C _) ic_2 dL_law_814 ?_
  refine rg_iadd (C _) dL_law_815 ?_
  obtain ⟨hi, h⟩ := ck_e h
  refine rgl_sld (C _) hi dL_law_816 ?_
  refine bd_e h (fun v283 σ283 hf283 h => ?_)
  refine rg_callV (C _) g_X10_variable hc_10 o_124 ml_L_174 (mX10_variable hl hI hf283) rfl rfl (by exact Nat.le_of_ble_eq_true rfl) ⟨Nat.le_of_ble_eq_true rfl, Nat.le_of_ble_eq_true rfl, by omega⟩ dL_law_817 ?_
  refine rg_istore (C pT) (by decide) dL_law_820 ?_
  refine rg_aload_n (C _) dL_law_822 rfl ?_
  refine bd_e h (fun v284 σ284 hf284 h => ?_)
  refine rg_callV (C _) g_X10_thrown hc_10 o_124 ml_L_146 (mX10_thrown hl hI hf284) rfl rfl (by exact Nat.le_of_ble_eq_true rfl) ⟨Nat.le_of_ble_eq_true rfl, Nat.le_of_ble_eq_true rfl, by omega⟩ dL_law_823 ?_
  refine rg_iload (C _) dL_law_826 rfl ?_
  refine rg_ic_eq (C _) (tgt := 833) h (by decide) dL_law_828 (fun hc h => ?_) (fun hc h => ?_)
  · refine rg_iload (C _) dL_law_833 rfl ?_
    refine rg_if_ne (C _) (tgt := 850) h (by decide) dL_law_835 (fun hc h => ?_) (fun hc h => ?_)
    · refine rg_weak (C _) [some (.inr 1000), some (.inr 0), some (.inr 124), some (.inr 155), some (.inr 156), some (.inl l5), none, none, none] ⟨rfl, ⟨rfl, ⟨rfl, ⟨rfl, ⟨rfl, ⟨rfl, trivial⟩⟩⟩⟩⟩⟩ ?_
      exact L850 _ (by omega) _ _ h
    · refine rg_aload_n (C _) dL_law_838 rfl ?_
      refine rg_iconst (C _) ic_0 dL_law_839 ?_
      refine rg_laload (C _) dL_law_840 ?_
      refine rg_iload (C _) dL_law_841 rfl ?_
      refine rg_i2l (C _) dL_law_843 ?_
      refine rg_lcmpeq (C _) (tgt := 850) h dL_law_844 (by decide) dL_law_845 (fun h => ?_) (fun h => ?_)
      · refine rg_weak (C _) [some (.inr 1000), some (.inr 0), some (.inr 124), some (.inr 155), some (.inr 156), some (.inl l5), none, none, none] ⟨rfl, ⟨rfl, ⟨rfl, ⟨rfl, ⟨rfl, ⟨rfl, trivial⟩⟩⟩⟩⟩⟩ ?_
        exact L850 _ (by omega) _ _ h
      · exact no_e h
  · exact no_e h
set_option maxHeartbeats 4000000 in
set_option maxRecDepth 100000 in
theorem law_K10 {l : Launch} {D : va_G} {ad : Nat → Nat} {cy : Nat → ClassId} {b L : Nat} {xs : Nat → Int32} {V : (Array Slot → Prop) → Vt} (hl : l.stackTraces = false) (hI : Inj ad) (A : RgA l D ad cy RL cL_law 9 20 10862 20000 [] (FL ad b L xs) V) {n : Nat} {r28 : Mem → Int32 → Option Unit} (ih28 : ∀ (κ : Nat), κ + 20 * n ≤ 20000 → ∀ (σ : Mem) (l5 : Int32), r28 σ l5 = some () → V pT κ σ 28 [some (.inr 1000), some (.inr 0), some (.inr 124), some (.inr 155), some (.inr 156), some (.inl l5), none, none, none] []) : ∀ (κ : Nat), κ + 20 * n + 20 ≤ 20000 → ∀ (σ : Mem) (l5 : Int32), fL_case10 L xs r28 σ l5 = some () → V pT κ σ 853 [some (.inr 1000), some (.inr 0), some (.inr 124), some (.inr 155), some (.inr 156), some (.inl l5), none, none, none] [] := by
  have C := rga_C A
  have L2416 := law_L2416 hl hI A ih28
  intro κ hκ σ l5 h
  refine rg_aload_n (C _) dL_law_853 rfl ?_
  refine bd_e h (fun v285 σ285 hf285 h => ?_)
  refine rg_callV (C _) g_X9_cost hc_9 o_0 ml_L_175 (mX9_cost hl hI hf285) rfl rfl (by exact Nat.le_of_ble_eq_true rfl) ⟨Nat.le_of_ble_eq_true rfl, Nat.le_of_ble_eq_true rfl, by omega⟩ dL_law_854 ?_
  refine rg_aload_n (C _) dL_law_857 rfl ?_
  refine bd_e h (fun v286 σ286 hf286 h => ?_)
  refine rg_callV (C _) g_X10_cost hc_10 o_124 ml_L_178 (mX10_cost hl hI hf286) rfl rfl (by exact Nat.le_of_ble_eq_true rfl) ⟨Nat.le_of_ble_eq_true rfl, Nat.le_of_ble_eq_true rfl, by omega⟩ dL_law_858 ?_
  refine rg_ic_eq (C _) (tgt := 2416) h (by decide) dL_law_861 (fun hc h => ?_) (fun hc h => ?_)
  · exact L2416 _ (by omega) _ _ h
  · exact no_e h
set_option maxHeartbeats 4000000 in
set_option maxRecDepth 100000 in
theorem law_K11 {l : Launch} {D : va_G} {ad : Nat → Nat} {cy : Nat → ClassId} {b L : Nat} {xs : Nat → Int32} {V : (Array Slot → Prop) → Vt} (hl : l.stackTraces = false) (hI : Inj ad) (A : RgA l D ad cy RL cL_law 9 20 10862 20000 [] (FL ad b L xs) V) {n : Nat} {r28 : Mem → Int32 → Option Unit} (ih28 : ∀ (κ : Nat), κ + 20 * n ≤ 20000 → ∀ (σ : Mem) (l5 : Int32), r28 σ l5 = some () → V pT κ σ 28 [some (.inr 1000), some (.inr 0), some (.inr 124), some (.inr 155), some (.inr 156), some (.inl l5), none, none, none] []) : ∀ (κ : Nat), κ + 20 * n + 20 ≤ 20000 → ∀ (σ : Mem) (l5 : Int32), fL_case11 L xs r28 σ l5 = some () → V pT κ σ 866 [some (.inr 1000), some (.inr 0), some (.inr 124), some (.inr 155), some (.inr 156), some (.inl l5), none, none, none] [] := by
  have C := rga_C A
  have L2416 := law_L2416 hl hI A ih28
  intro κ hκ σ l5 h
  refine rg_aload_n (C _) dL_law_866 rfl ?_
  refine bd_e h (fun v287 σ287 hf287 h => ?_)
  refine rg_callV (C _) g_X9_bestCost hc_9 o_0 ml_L_179 (mX9_bestCost hl hI hf287) rfl rfl (by exact Nat.le_of_ble_eq_true rfl) ⟨Nat.le_of_ble_eq_true rfl, Nat.le_of_ble_eq_true rfl, by omega⟩ dL_law_867 ?_
  refine rg_aload_n (C _) dL_law_870 rfl ?_
  refine bd_e h (fun v288 σ288 hf288 h => ?_)
  refine rg_callV (C _) g_X10_bestCost hc_10 o_124 ml_L_182 (mX10_bestCost hl hI hf288) rfl rfl (by exact Nat.le_of_ble_eq_true rfl) ⟨Nat.le_of_ble_eq_true rfl, Nat.le_of_ble_eq_true rfl, by omega⟩ dL_law_871 ?_
  refine rg_ic_eq (C _) (tgt := 2416) h (by decide) dL_law_874 (fun hc h => ?_) (fun hc h => ?_)
  · exact L2416 _ (by omega) _ _ h
  · exact no_e h
set_option maxHeartbeats 4000000 in
set_option maxRecDepth 100000 in
theorem law_K12 {l : Launch} {D : va_G} {ad : Nat → Nat} {cy : Nat → ClassId} {b L : Nat} {xs : Nat → Int32} {V : (Array Slot → Prop) → Vt} (hl : l.stackTraces = false) (hI : Inj ad) (A : RgA l D ad cy RL cL_law 9 20 10862 20000 [] (FL ad b L xs) V) {n : Nat} {r28 : Mem → Int32 → Option Unit} (ih28 : ∀ (κ : Nat), κ + 20 * n ≤ 20000 → ∀ (σ : Mem) (l5 : Int32), r28 σ l5 = some () → V pT κ σ 28 [some (.inr 1000), some (.inr 0), some (.inr 124), some (.inr 155), some (.inr 156), some (.inl l5), none, none, none] []) : ∀ (κ : Nat), κ + 20 * n + 20 ≤ 20000 → ∀ (σ : Mem) (l5 : Int32), fL_case12 L xs r28 σ l5 = some () → V pT κ σ 879 [some (.inr 1000), some (.inr 0), some (.inr 124), some (.inr 155), some (.inr 156), some (.inl l5), none, none, none] [] := by
  have C := rga_C A
  have L900 := law_L900 hl hI A ih28
  intro κ hκ σ l5 h
  refine rg_aload_n (C _) dL_law_879 rfl ?_
  refine rg_aload_n (C _) dL_law_880 rfl ?_
  refine rg_iload (C _) dL_law_881 rfl ?_
  refine rg_iconst (C _) ic_1 dL_law_883 ?_
  refine rg_iadd (C _) dL_law_884 ?_
  obtain ⟨hi, h⟩ := ck_e h
  refine rgl_sld (C _) hi dL_law_885 ?_
  refine rg_aload_n (C _) dL_law_886 rfl ?_
  refine rg_iload (C _) dL_law_887 rfl ?_
  refine rg_iconst (C _) ic_2 dL_law_889 ?_
  refine rg_iadd (C _) dL_law_890 ?_
  obtain ⟨hi, h⟩ := ck_e h
  refine rgl_sld (C _) hi dL_law_891 ?_
  refine rg_if_eq (C _) (tgt := 899) h (by decide) dL_law_892 (fun hc h => ?_) (fun hc h => ?_)
  · refine rg_iconst (C _) ic_0 dL_law_899 ?_
    exact L900 _ (by omega) _ _ _ _ h
  · refine rg_iconst (C _) ic_1 dL_law_895 ?_
    refine rg_goto (C _) (tgt := 900) (by decide) dL_law_896 ?_
    exact L900 _ (by omega) _ _ _ _ h
set_option maxHeartbeats 4000000 in
set_option maxRecDepth 100000 in
theorem law_K13 {l : Launch} {D : va_G} {ad : Nat → Nat} {cy : Nat → ClassId} {b L : Nat} {xs : Nat → Int32} {V : (Array Slot → Prop) → Vt} (hl : l.stackTraces = false) (hI : Inj ad) (A : RgA l D ad cy RL cL_law 9 20 10862 20000 [] (FL ad b L xs) V) {n : Nat} {r28 : Mem → Int32 → Option Unit} (ih28 : ∀ (κ : Nat), κ + 20 * n ≤ 20000 → ∀ (σ : Mem) (l5 : Int32), r28 σ l5 = some () → V pT κ σ 28 [some (.inr 1000), some (.inr 0), some (.inr 124), some (.inr 155), some (.inr 156), some (.inl l5), none, none, none] []) : ∀ (κ : Nat), κ + 20 * n + 20 ≤ 20000 → ∀ (σ : Mem) (l5 : Int32), fL_case13 L xs r28 σ l5 = some () → V pT κ σ 963 [some (.inr 1000), some (.inr 0), some (.inr 124), some (.inr 155), some (.inr 156), some (.inl l5), none, none, none] [] := by
  have C := rga_C A
  have L1004 := law_L1004 hl hI A ih28
  intro κ hκ σ l5 h
  refine rg_aload_n (C _) dL_law_963 rfl ?_
  refine rg_aload_n (C _) dL_law_964 rfl ?_
  refine bd_e h (fun v289 σ289 hf289 h => ?_)
  refine rg_callW (C _) gw_L_mostBlamed ml_L_187 (cL_mostBlamed_c hl hI hf289) rfl rfl (by exact Nat.le_of_ble_eq_true rfl) ⟨Nat.le_of_ble_eq_true rfl, Nat.le_of_ble_eq_true rfl, by omega⟩ dL_law_965 ?_
  refine rg_istore (C pT) (by decide) dL_law_968 ?_
  refine rg_aload_n (C _) dL_law_970 rfl ?_
  refine bd_e h (fun v290 σ290 hf290 h => ?_)
  refine rg_callV (C _) g_X10_mostBlamed hc_10 o_124 ml_L_190 (mX10_mostBlamed hl hI hf290) rfl rfl (by exact Nat.le_of_ble_eq_true rfl) ⟨Nat.le_of_ble_eq_true rfl, Nat.le_of_ble_eq_true rfl, by omega⟩ dL_law_971 ?_
  refine rg_istore (C pT) (by decide) dL_law_974 ?_
  refine rg_aload_n (C _) dL_law_976 rfl ?_
  refine bd_e h (fun v291 σ291 hf291 h => ?_)
  refine rg_callV (C _) g_X10_thrown hc_10 o_124 ml_L_146 (mX10_thrown hl hI hf291) rfl rfl (by exact Nat.le_of_ble_eq_true rfl) ⟨Nat.le_of_ble_eq_true rfl, Nat.le_of_ble_eq_true rfl, by omega⟩ dL_law_977 ?_
  refine rg_iload (C _) dL_law_980 rfl ?_
  refine rg_ic_eq (C _) (tgt := 987) h (by decide) dL_law_982 (fun hc h => ?_) (fun hc h => ?_)
  · refine rg_iload (C _) dL_law_987 rfl ?_
    refine rg_if_ne (C _) (tgt := 1004) h (by decide) dL_law_989 (fun hc h => ?_) (fun hc h => ?_)
    · refine rg_weak (C _) [some (.inr 1000), some (.inr 0), some (.inr 124), some (.inr 155), some (.inr 156), some (.inl l5), none, none, none] ⟨rfl, ⟨rfl, ⟨rfl, ⟨rfl, ⟨rfl, ⟨rfl, trivial⟩⟩⟩⟩⟩⟩ ?_
      exact L1004 _ (by omega) _ _ h
    · refine rg_aload_n (C _) dL_law_992 rfl ?_
      refine rg_iconst (C _) ic_0 dL_law_993 ?_
      refine rg_laload (C _) dL_law_994 ?_
      refine rg_iload (C _) dL_law_995 rfl ?_
      refine rg_i2l (C _) dL_law_997 ?_
      refine rg_lcmpeq (C _) (tgt := 1004) h dL_law_998 (by decide) dL_law_999 (fun h => ?_) (fun h => ?_)
      · refine rg_weak (C _) [some (.inr 1000), some (.inr 0), some (.inr 124), some (.inr 155), some (.inr 156), some (.inl l5), none, none, none] ⟨rfl, ⟨rfl, ⟨rfl, ⟨rfl, ⟨rfl, ⟨rfl, trivial⟩⟩⟩⟩⟩⟩ ?_
        exact L1004 _ (by omega) _ _ h
      · exact no_e h
  · exact no_e h
set_option maxHeartbeats 4000000 in
set_option maxRecDepth 100000 in
theorem law_K14 {l : Launch} {D : va_G} {ad : Nat → Nat} {cy : Nat → ClassId} {b L : Nat} {xs : Nat → Int32} {V : (Array Slot → Prop) → Vt} (hl : l.stackTraces = false) (hI : Inj ad) (A : RgA l D ad cy RL cL_law 9 20 10862 20000 [] (FL ad b L xs) V) {n : Nat} {r28 : Mem → Int32 → Option Unit} (ih28 : ∀ (κ : Nat), κ + 20 * n ≤ 20000 → ∀ (σ : Mem) (l5 : Int32), r28 σ l5 = some () → V pT κ σ 28 [some (.inr 1000), some (.inr 0), some (.inr 124), some (.inr 155), some (.inr 156), some (.inl l5), none, none, none] []) : ∀ (κ : Nat), κ + 20 * n + 20 ≤ 20000 → ∀ (σ : Mem) (l5 : Int32), fL_case14 L xs r28 σ l5 = some () → V pT κ σ 1007 [some (.inr 1000), some (.inr 0), some (.inr 124), some (.inr 155), some (.inr 156), some (.inl l5), none, none, none] [] := by
  have C := rga_C A
  have L1060 := law_L1060 hl hI A ih28
  intro κ hκ σ l5 h
  refine rg_aload_n (C _) dL_law_1007 rfl ?_
  refine rg_aload_n (C _) dL_law_1008 rfl ?_
  refine rg_iload (C _) dL_law_1009 rfl ?_
  refine rg_iconst (C _) ic_1 dL_law_1011 ?_
  refine rg_iadd (C _) dL_law_1012 ?_
  obtain ⟨hi, h⟩ := ck_e h
  refine rgl_sld (C _) hi dL_law_1013 ?_
  refine rg_aload_n (C _) dL_law_1014 rfl ?_
  refine bd_e h (fun v292 σ292 hf292 h => ?_)
  refine rg_callW (C _) gw_L_relief ml_L_191 (cL_relief_c hl hI hf292) rfl rfl (by exact Nat.le_of_ble_eq_true rfl) ⟨Nat.le_of_ble_eq_true rfl, Nat.le_of_ble_eq_true rfl, by omega⟩ dL_law_1015 ?_
  refine rg_istore (C pT) (by decide) dL_law_1018 ?_
  refine rg_aload_n (C _) dL_law_1020 rfl ?_
  refine rg_aload_n (C _) dL_law_1021 rfl ?_
  refine rg_iload (C _) dL_law_1022 rfl ?_
  refine rg_iconst (C _) ic_1 dL_law_1024 ?_
  refine rg_iadd (C _) dL_law_1025 ?_
  obtain ⟨hi, h⟩ := ck_e h
  refine rgl_sld (C _) hi dL_law_1026 ?_
  refine bd_e h (fun v293 σ293 hf293 h => ?_)
  refine rg_callV (C _) g_X10_relief hc_10 o_124 ml_L_193 (mX10_relief hl hI hf293) rfl rfl (by exact Nat.le_of_ble_eq_true rfl) ⟨Nat.le_of_ble_eq_true rfl, Nat.le_of_ble_eq_true rfl, by omega⟩ dL_law_1027 ?_
  refine rg_istore (C pT) (by decide) dL_law_1030 ?_
  refine rg_aload_n (C _) dL_law_1032 rfl ?_
  refine bd_e h (fun v294 σ294 hf294 h => ?_)
  refine rg_callV (C _) g_X10_thrown hc_10 o_124 ml_L_146 (mX10_thrown hl hI hf294) rfl rfl (by exact Nat.le_of_ble_eq_true rfl) ⟨Nat.le_of_ble_eq_true rfl, Nat.le_of_ble_eq_true rfl, by omega⟩ dL_law_1033 ?_
  refine rg_iload (C _) dL_law_1036 rfl ?_
  refine rg_ic_eq (C _) (tgt := 1043) h (by decide) dL_law_1038 (fun hc h => ?_) (fun hc h => ?_)
  · refine rg_iload (C _) dL_law_1043 rfl ?_
    refine rg_if_ne (C _) (tgt := 1060) h (by decide) dL_law_1045 (fun hc h => ?_) (fun hc h => ?_)
    · refine rg_weak (C _) [some (.inr 1000), some (.inr 0), some (.inr 124), some (.inr 155), some (.inr 156), some (.inl l5), none, none, none] ⟨rfl, ⟨rfl, ⟨rfl, ⟨rfl, ⟨rfl, ⟨rfl, trivial⟩⟩⟩⟩⟩⟩ ?_
      exact L1060 _ (by omega) _ _ h
    · refine rg_aload_n (C _) dL_law_1048 rfl ?_
      refine rg_iconst (C _) ic_0 dL_law_1049 ?_
      refine rg_laload (C _) dL_law_1050 ?_
      refine rg_iload (C _) dL_law_1051 rfl ?_
      refine rg_i2l (C _) dL_law_1053 ?_
      refine rg_lcmpeq (C _) (tgt := 1060) h dL_law_1054 (by decide) dL_law_1055 (fun h => ?_) (fun h => ?_)
      · refine rg_weak (C _) [some (.inr 1000), some (.inr 0), some (.inr 124), some (.inr 155), some (.inr 156), some (.inl l5), none, none, none] ⟨rfl, ⟨rfl, ⟨rfl, ⟨rfl, ⟨rfl, ⟨rfl, trivial⟩⟩⟩⟩⟩⟩ ?_
        exact L1060 _ (by omega) _ _ h
      · exact no_e h
  · exact no_e h
set_option maxHeartbeats 4000000 in
set_option maxRecDepth 100000 in
theorem law_K15 {l : Launch} {D : va_G} {ad : Nat → Nat} {cy : Nat → ClassId} {b L : Nat} {xs : Nat → Int32} {V : (Array Slot → Prop) → Vt} (hl : l.stackTraces = false) (hI : Inj ad) (A : RgA l D ad cy RL cL_law 9 20 10862 20000 [] (FL ad b L xs) V) {n : Nat} {r28 : Mem → Int32 → Option Unit} (ih28 : ∀ (κ : Nat), κ + 20 * n ≤ 20000 → ∀ (σ : Mem) (l5 : Int32), r28 σ l5 = some () → V pT κ σ 28 [some (.inr 1000), some (.inr 0), some (.inr 124), some (.inr 155), some (.inr 156), some (.inl l5), none, none, none] []) : ∀ (κ : Nat), κ + 20 * n + 20 ≤ 20000 → ∀ (σ : Mem) (l5 : Int32), fL_case15 L xs r28 σ l5 = some () → V pT κ σ 1063 [some (.inr 1000), some (.inr 0), some (.inr 124), some (.inr 155), some (.inr 156), some (.inl l5), none, none, none] [] := by
  have C := rga_C A
  have L2416 := law_L2416 hl hI A ih28
  intro κ hκ σ l5 h
  refine rg_aload_n (C _) dL_law_1063 rfl ?_
  refine bd_e h (fun v295 σ295 hf295 h => ?_)
  refine rg_callV (C _) g_X9_takeBest hc_9 o_0 ml_L_194 (mX9_takeBest hl hI hf295) rfl rfl (by exact Nat.le_of_ble_eq_true rfl) ⟨Nat.le_of_ble_eq_true rfl, Nat.le_of_ble_eq_true rfl, by omega⟩ dL_law_1064 ?_
  refine rg_aload_n (C _) dL_law_1067 rfl ?_
  refine bd_e h (fun v296 σ296 hf296 h => ?_)
  refine rg_callV (C _) g_X10_takeBest hc_10 o_124 ml_L_197 (mX10_takeBest hl hI hf296) rfl rfl (by exact Nat.le_of_ble_eq_true rfl) ⟨Nat.le_of_ble_eq_true rfl, Nat.le_of_ble_eq_true rfl, by omega⟩ dL_law_1068 ?_
  refine rg_ic_eq (C _) (tgt := 2416) h (by decide) dL_law_1071 (fun hc h => ?_) (fun hc h => ?_)
  · exact L2416 _ (by omega) _ _ h
  · exact no_e h
set_option maxHeartbeats 4000000 in
set_option maxRecDepth 100000 in
theorem law_K16 {l : Launch} {D : va_G} {ad : Nat → Nat} {cy : Nat → ClassId} {b L : Nat} {xs : Nat → Int32} {V : (Array Slot → Prop) → Vt} (hl : l.stackTraces = false) (hI : Inj ad) (A : RgA l D ad cy RL cL_law 9 20 10862 20000 [] (FL ad b L xs) V) {n : Nat} {r28 : Mem → Int32 → Option Unit} (ih28 : ∀ (κ : Nat), κ + 20 * n ≤ 20000 → ∀ (σ : Mem) (l5 : Int32), r28 σ l5 = some () → V pT κ σ 28 [some (.inr 1000), some (.inr 0), some (.inr 124), some (.inr 155), some (.inr 156), some (.inl l5), none, none, none] []) : ∀ (κ : Nat), κ + 20 * n + 20 ≤ 20000 → ∀ (σ : Mem) (l5 : Int32), fL_case16 L xs r28 σ l5 = some () → V pT κ σ 1076 [some (.inr 1000), some (.inr 0), some (.inr 124), some (.inr 155), some (.inr 156), some (.inl l5), none, none, none] [] := by
  have C := rga_C A
  have L1129 := law_L1129 hl hI A ih28
  intro κ hκ σ l5 h
  refine rg_aload_n (C _) dL_law_1076 rfl ?_
  refine rg_aload_n (C _) dL_law_1077 rfl ?_
  refine rg_iload (C _) dL_law_1078 rfl ?_
  refine rg_iconst (C _) ic_1 dL_law_1080 ?_
  refine rg_iadd (C _) dL_law_1081 ?_
  obtain ⟨hi, h⟩ := ck_e h
  refine rgl_sld (C _) hi dL_law_1082 ?_
  refine rg_aload_n (C _) dL_law_1083 rfl ?_
  refine bd_e h (fun v297 σ297 hf297 h => ?_)
  refine rg_callW (C _) gw_L_setNeighborhood ml_L_198 (cL_setNeighborhood_c hl hI hf297) rfl rfl (by exact Nat.le_of_ble_eq_true rfl) ⟨Nat.le_of_ble_eq_true rfl, Nat.le_of_ble_eq_true rfl, by omega⟩ dL_law_1084 ?_
  refine rg_istore (C pT) (by decide) dL_law_1087 ?_
  refine rg_aload_n (C _) dL_law_1089 rfl ?_
  refine rg_aload_n (C _) dL_law_1090 rfl ?_
  refine rg_iload (C _) dL_law_1091 rfl ?_
  refine rg_iconst (C _) ic_1 dL_law_1093 ?_
  refine rg_iadd (C _) dL_law_1094 ?_
  obtain ⟨hi, h⟩ := ck_e h
  refine rgl_sld (C _) hi dL_law_1095 ?_
  refine bd_e h (fun v298 σ298 hf298 h => ?_)
  refine rg_callV (C _) g_X10_setNeighborhood hc_10 o_124 ml_L_200 (mX10_setNeighborhood hl hI hf298) rfl rfl (by exact Nat.le_of_ble_eq_true rfl) ⟨Nat.le_of_ble_eq_true rfl, Nat.le_of_ble_eq_true rfl, by omega⟩ dL_law_1096 ?_
  refine rg_istore (C pT) (by decide) dL_law_1099 ?_
  refine rg_aload_n (C _) dL_law_1101 rfl ?_
  refine bd_e h (fun v299 σ299 hf299 h => ?_)
  refine rg_callV (C _) g_X10_thrown hc_10 o_124 ml_L_146 (mX10_thrown hl hI hf299) rfl rfl (by exact Nat.le_of_ble_eq_true rfl) ⟨Nat.le_of_ble_eq_true rfl, Nat.le_of_ble_eq_true rfl, by omega⟩ dL_law_1102 ?_
  refine rg_iload (C _) dL_law_1105 rfl ?_
  refine rg_ic_eq (C _) (tgt := 1112) h (by decide) dL_law_1107 (fun hc h => ?_) (fun hc h => ?_)
  · refine rg_iload (C _) dL_law_1112 rfl ?_
    refine rg_if_ne (C _) (tgt := 1129) h (by decide) dL_law_1114 (fun hc h => ?_) (fun hc h => ?_)
    · refine rg_weak (C _) [some (.inr 1000), some (.inr 0), some (.inr 124), some (.inr 155), some (.inr 156), some (.inl l5), none, none, none] ⟨rfl, ⟨rfl, ⟨rfl, ⟨rfl, ⟨rfl, ⟨rfl, trivial⟩⟩⟩⟩⟩⟩ ?_
      exact L1129 _ (by omega) _ _ h
    · refine rg_aload_n (C _) dL_law_1117 rfl ?_
      refine rg_iconst (C _) ic_0 dL_law_1118 ?_
      refine rg_laload (C _) dL_law_1119 ?_
      refine rg_iload (C _) dL_law_1120 rfl ?_
      refine rg_i2l (C _) dL_law_1122 ?_
      refine rg_lcmpeq (C _) (tgt := 1129) h dL_law_1123 (by decide) dL_law_1124 (fun h => ?_) (fun h => ?_)
      · refine rg_weak (C _) [some (.inr 1000), some (.inr 0), some (.inr 124), some (.inr 155), some (.inr 156), some (.inl l5), none, none, none] ⟨rfl, ⟨rfl, ⟨rfl, ⟨rfl, ⟨rfl, ⟨rfl, trivial⟩⟩⟩⟩⟩⟩ ?_
        exact L1129 _ (by omega) _ _ h
      · exact no_e h
  · exact no_e h
set_option maxHeartbeats 4000000 in
set_option maxRecDepth 100000 in
theorem law_K17 {l : Launch} {D : va_G} {ad : Nat → Nat} {cy : Nat → ClassId} {b L : Nat} {xs : Nat → Int32} {V : (Array Slot → Prop) → Vt} (hl : l.stackTraces = false) (hI : Inj ad) (A : RgA l D ad cy RL cL_law 9 20 10862 20000 [] (FL ad b L xs) V) {n : Nat} {r28 : Mem → Int32 → Option Unit} (ih28 : ∀ (κ : Nat), κ + 20 * n ≤ 20000 → ∀ (σ : Mem) (l5 : Int32), r28 σ l5 = some () → V pT κ σ 28 [some (.inr 1000), some (.inr 0), some (.inr 124), some (.inr 155), some (.inr 156), some (.inl l5), none, none, none] []) : ∀ (κ : Nat), κ + 20 * n + 20 ≤ 20000 → ∀ (σ : Mem) (l5 : Int32), fL_case17 L xs r28 σ l5 = some () → V pT κ σ 1132 [some (.inr 1000), some (.inr 0), some (.inr 124), some (.inr 155), some (.inr 156), some (.inl l5), none, none, none] [] := by
  have C := rga_C A
  have L1185 := law_L1185 hl hI A ih28
  intro κ hκ σ l5 h
  refine rg_aload_n (C _) dL_law_1132 rfl ?_
  refine rg_aload_n (C _) dL_law_1133 rfl ?_
  refine rg_iload (C _) dL_law_1134 rfl ?_
  refine rg_iconst (C _) ic_1 dL_law_1136 ?_
  refine rg_iadd (C _) dL_law_1137 ?_
  obtain ⟨hi, h⟩ := ck_e h
  refine rgl_sld (C _) hi dL_law_1138 ?_
  refine rg_aload_n (C _) dL_law_1139 rfl ?_
  refine bd_e h (fun v300 σ300 hf300 h => ?_)
  refine rg_callW (C _) gw_L_setTenure ml_L_201 (cL_setTenure_c hl hI hf300) rfl rfl (by exact Nat.le_of_ble_eq_true rfl) ⟨Nat.le_of_ble_eq_true rfl, Nat.le_of_ble_eq_true rfl, by omega⟩ dL_law_1140 ?_
  refine rg_istore (C pT) (by decide) dL_law_1143 ?_
  refine rg_aload_n (C _) dL_law_1145 rfl ?_
  refine rg_aload_n (C _) dL_law_1146 rfl ?_
  refine rg_iload (C _) dL_law_1147 rfl ?_
  refine rg_iconst (C _) ic_1 dL_law_1149 ?_
  refine rg_iadd (C _) dL_law_1150 ?_
  obtain ⟨hi, h⟩ := ck_e h
  refine rgl_sld (C _) hi dL_law_1151 ?_
  refine bd_e h (fun v301 σ301 hf301 h => ?_)
  refine rg_callV (C _) g_X10_setTenure hc_10 o_124 ml_L_203 (mX10_setTenure hl hI hf301) rfl rfl (by exact Nat.le_of_ble_eq_true rfl) ⟨Nat.le_of_ble_eq_true rfl, Nat.le_of_ble_eq_true rfl, by omega⟩ dL_law_1152 ?_
  refine rg_istore (C pT) (by decide) dL_law_1155 ?_
  refine rg_aload_n (C _) dL_law_1157 rfl ?_
  refine bd_e h (fun v302 σ302 hf302 h => ?_)
  refine rg_callV (C _) g_X10_thrown hc_10 o_124 ml_L_146 (mX10_thrown hl hI hf302) rfl rfl (by exact Nat.le_of_ble_eq_true rfl) ⟨Nat.le_of_ble_eq_true rfl, Nat.le_of_ble_eq_true rfl, by omega⟩ dL_law_1158 ?_
  refine rg_iload (C _) dL_law_1161 rfl ?_
  refine rg_ic_eq (C _) (tgt := 1168) h (by decide) dL_law_1163 (fun hc h => ?_) (fun hc h => ?_)
  · refine rg_iload (C _) dL_law_1168 rfl ?_
    refine rg_if_ne (C _) (tgt := 1185) h (by decide) dL_law_1170 (fun hc h => ?_) (fun hc h => ?_)
    · refine rg_weak (C _) [some (.inr 1000), some (.inr 0), some (.inr 124), some (.inr 155), some (.inr 156), some (.inl l5), none, none, none] ⟨rfl, ⟨rfl, ⟨rfl, ⟨rfl, ⟨rfl, ⟨rfl, trivial⟩⟩⟩⟩⟩⟩ ?_
      exact L1185 _ (by omega) _ _ h
    · refine rg_aload_n (C _) dL_law_1173 rfl ?_
      refine rg_iconst (C _) ic_0 dL_law_1174 ?_
      refine rg_laload (C _) dL_law_1175 ?_
      refine rg_iload (C _) dL_law_1176 rfl ?_
      refine rg_i2l (C _) dL_law_1178 ?_
      refine rg_lcmpeq (C _) (tgt := 1185) h dL_law_1179 (by decide) dL_law_1180 (fun h => ?_) (fun h => ?_)
      · refine rg_weak (C _) [some (.inr 1000), some (.inr 0), some (.inr 124), some (.inr 155), some (.inr 156), some (.inl l5), none, none, none] ⟨rfl, ⟨rfl, ⟨rfl, ⟨rfl, ⟨rfl, ⟨rfl, trivial⟩⟩⟩⟩⟩⟩ ?_
        exact L1185 _ (by omega) _ _ h
      · exact no_e h
  · exact no_e h
set_option maxHeartbeats 4000000 in
set_option maxRecDepth 100000 in
theorem law_K18 {l : Launch} {D : va_G} {ad : Nat → Nat} {cy : Nat → ClassId} {b L : Nat} {xs : Nat → Int32} {V : (Array Slot → Prop) → Vt} (hl : l.stackTraces = false) (hI : Inj ad) (A : RgA l D ad cy RL cL_law 9 20 10862 20000 [] (FL ad b L xs) V) {n : Nat} {r28 : Mem → Int32 → Option Unit} (ih28 : ∀ (κ : Nat), κ + 20 * n ≤ 20000 → ∀ (σ : Mem) (l5 : Int32), r28 σ l5 = some () → V pT κ σ 28 [some (.inr 1000), some (.inr 0), some (.inr 124), some (.inr 155), some (.inr 156), some (.inl l5), none, none, none] []) : ∀ (κ : Nat), κ + 20 * n + 20 ≤ 20000 → ∀ (σ : Mem) (l5 : Int32), fL_case18 L xs r28 σ l5 = some () → V pT κ σ 1188 [some (.inr 1000), some (.inr 0), some (.inr 124), some (.inr 155), some (.inr 156), some (.inl l5), none, none, none] [] := by
  have C := rga_C A
  have L1241 := law_L1241 hl hI A ih28
  intro κ hκ σ l5 h
  refine rg_aload_n (C _) dL_law_1188 rfl ?_
  refine rg_aload_n (C _) dL_law_1189 rfl ?_
  refine rg_iload (C _) dL_law_1190 rfl ?_
  refine rg_iconst (C _) ic_1 dL_law_1192 ?_
  refine rg_iadd (C _) dL_law_1193 ?_
  obtain ⟨hi, h⟩ := ck_e h
  refine rgl_sld (C _) hi dL_law_1194 ?_
  refine rg_aload_n (C _) dL_law_1195 rfl ?_
  refine bd_e h (fun v303 σ303 hf303 h => ?_)
  refine rg_callW (C _) gw_L_setPatience ml_L_204 (cL_setPatience_c hl hI hf303) rfl rfl (by exact Nat.le_of_ble_eq_true rfl) ⟨Nat.le_of_ble_eq_true rfl, Nat.le_of_ble_eq_true rfl, by omega⟩ dL_law_1196 ?_
  refine rg_istore (C pT) (by decide) dL_law_1199 ?_
  refine rg_aload_n (C _) dL_law_1201 rfl ?_
  refine rg_aload_n (C _) dL_law_1202 rfl ?_
  refine rg_iload (C _) dL_law_1203 rfl ?_
  refine rg_iconst (C _) ic_1 dL_law_1205 ?_
  refine rg_iadd (C _) dL_law_1206 ?_
  obtain ⟨hi, h⟩ := ck_e h
  refine rgl_sld (C _) hi dL_law_1207 ?_
  refine bd_e h (fun v304 σ304 hf304 h => ?_)
  refine rg_callV (C _) g_X10_setPatience hc_10 o_124 ml_L_206 (mX10_setPatience hl hI hf304) rfl rfl (by exact Nat.le_of_ble_eq_true rfl) ⟨Nat.le_of_ble_eq_true rfl, Nat.le_of_ble_eq_true rfl, by omega⟩ dL_law_1208 ?_
  refine rg_istore (C pT) (by decide) dL_law_1211 ?_
  refine rg_aload_n (C _) dL_law_1213 rfl ?_
  refine bd_e h (fun v305 σ305 hf305 h => ?_)
  refine rg_callV (C _) g_X10_thrown hc_10 o_124 ml_L_146 (mX10_thrown hl hI hf305) rfl rfl (by exact Nat.le_of_ble_eq_true rfl) ⟨Nat.le_of_ble_eq_true rfl, Nat.le_of_ble_eq_true rfl, by omega⟩ dL_law_1214 ?_
  refine rg_iload (C _) dL_law_1217 rfl ?_
  refine rg_ic_eq (C _) (tgt := 1224) h (by decide) dL_law_1219 (fun hc h => ?_) (fun hc h => ?_)
  · refine rg_iload (C _) dL_law_1224 rfl ?_
    refine rg_if_ne (C _) (tgt := 1241) h (by decide) dL_law_1226 (fun hc h => ?_) (fun hc h => ?_)
    · refine rg_weak (C _) [some (.inr 1000), some (.inr 0), some (.inr 124), some (.inr 155), some (.inr 156), some (.inl l5), none, none, none] ⟨rfl, ⟨rfl, ⟨rfl, ⟨rfl, ⟨rfl, ⟨rfl, trivial⟩⟩⟩⟩⟩⟩ ?_
      exact L1241 _ (by omega) _ _ h
    · refine rg_aload_n (C _) dL_law_1229 rfl ?_
      refine rg_iconst (C _) ic_0 dL_law_1230 ?_
      refine rg_laload (C _) dL_law_1231 ?_
      refine rg_iload (C _) dL_law_1232 rfl ?_
      refine rg_i2l (C _) dL_law_1234 ?_
      refine rg_lcmpeq (C _) (tgt := 1241) h dL_law_1235 (by decide) dL_law_1236 (fun h => ?_) (fun h => ?_)
      · refine rg_weak (C _) [some (.inr 1000), some (.inr 0), some (.inr 124), some (.inr 155), some (.inr 156), some (.inl l5), none, none, none] ⟨rfl, ⟨rfl, ⟨rfl, ⟨rfl, ⟨rfl, ⟨rfl, trivial⟩⟩⟩⟩⟩⟩ ?_
        exact L1241 _ (by omega) _ _ h
      · exact no_e h
  · exact no_e h
set_option maxHeartbeats 4000000 in
set_option maxRecDepth 100000 in
theorem law_K19 {l : Launch} {D : va_G} {ad : Nat → Nat} {cy : Nat → ClassId} {b L : Nat} {xs : Nat → Int32} {V : (Array Slot → Prop) → Vt} (hl : l.stackTraces = false) (hI : Inj ad) (A : RgA l D ad cy RL cL_law 9 20 10862 20000 [] (FL ad b L xs) V) {n : Nat} {r28 : Mem → Int32 → Option Unit} (ih28 : ∀ (κ : Nat), κ + 20 * n ≤ 20000 → ∀ (σ : Mem) (l5 : Int32), r28 σ l5 = some () → V pT κ σ 28 [some (.inr 1000), some (.inr 0), some (.inr 124), some (.inr 155), some (.inr 156), some (.inl l5), none, none, none] []) : ∀ (κ : Nat), κ + 20 * n + 20 ≤ 20000 → ∀ (σ : Mem) (l5 : Int32), fL_case19 L xs r28 σ l5 = some () → V pT κ σ 1244 [some (.inr 1000), some (.inr 0), some (.inr 124), some (.inr 155), some (.inr 156), some (.inl l5), none, none, none] [] := by
  have C := rga_C A
  have L1297 := law_L1297 hl hI A ih28
  intro κ hκ σ l5 h
  refine rg_aload_n (C _) dL_law_1244 rfl ?_
  refine rg_aload_n (C _) dL_law_1245 rfl ?_
  refine rg_iload (C _) dL_law_1246 rfl ?_
  refine rg_iconst (C _) ic_1 dL_law_1248 ?_
  refine rg_iadd (C _) dL_law_1249 ?_
  obtain ⟨hi, h⟩ := ck_e h
  refine rgl_sld (C _) hi dL_law_1250 ?_
  refine rg_aload_n (C _) dL_law_1251 rfl ?_
  refine bd_e h (fun v306 σ306 hf306 h => ?_)
  refine rg_callW (C _) gw_L_setSeed ml_L_207 (cL_setSeed_c hl hI hf306) rfl rfl (by exact Nat.le_of_ble_eq_true rfl) ⟨Nat.le_of_ble_eq_true rfl, Nat.le_of_ble_eq_true rfl, by omega⟩ dL_law_1252 ?_
  refine rg_istore (C pT) (by decide) dL_law_1255 ?_
  refine rg_aload_n (C _) dL_law_1257 rfl ?_
  refine rg_aload_n (C _) dL_law_1258 rfl ?_
  refine rg_iload (C _) dL_law_1259 rfl ?_
  refine rg_iconst (C _) ic_1 dL_law_1261 ?_
  refine rg_iadd (C _) dL_law_1262 ?_
  obtain ⟨hi, h⟩ := ck_e h
  refine rgl_sld (C _) hi dL_law_1263 ?_
  refine bd_e h (fun v307 σ307 hf307 h => ?_)
  refine rg_callV (C _) g_X10_setSeed hc_10 o_124 ml_L_209 (mX10_setSeed hl hI hf307) rfl rfl (by exact Nat.le_of_ble_eq_true rfl) ⟨Nat.le_of_ble_eq_true rfl, Nat.le_of_ble_eq_true rfl, by omega⟩ dL_law_1264 ?_
  refine rg_istore (C pT) (by decide) dL_law_1267 ?_
  refine rg_aload_n (C _) dL_law_1269 rfl ?_
  refine bd_e h (fun v308 σ308 hf308 h => ?_)
  refine rg_callV (C _) g_X10_thrown hc_10 o_124 ml_L_146 (mX10_thrown hl hI hf308) rfl rfl (by exact Nat.le_of_ble_eq_true rfl) ⟨Nat.le_of_ble_eq_true rfl, Nat.le_of_ble_eq_true rfl, by omega⟩ dL_law_1270 ?_
  refine rg_iload (C _) dL_law_1273 rfl ?_
  refine rg_ic_eq (C _) (tgt := 1280) h (by decide) dL_law_1275 (fun hc h => ?_) (fun hc h => ?_)
  · refine rg_iload (C _) dL_law_1280 rfl ?_
    refine rg_if_ne (C _) (tgt := 1297) h (by decide) dL_law_1282 (fun hc h => ?_) (fun hc h => ?_)
    · refine rg_weak (C _) [some (.inr 1000), some (.inr 0), some (.inr 124), some (.inr 155), some (.inr 156), some (.inl l5), none, none, none] ⟨rfl, ⟨rfl, ⟨rfl, ⟨rfl, ⟨rfl, ⟨rfl, trivial⟩⟩⟩⟩⟩⟩ ?_
      exact L1297 _ (by omega) _ _ h
    · refine rg_aload_n (C _) dL_law_1285 rfl ?_
      refine rg_iconst (C _) ic_0 dL_law_1286 ?_
      refine rg_laload (C _) dL_law_1287 ?_
      refine rg_iload (C _) dL_law_1288 rfl ?_
      refine rg_i2l (C _) dL_law_1290 ?_
      refine rg_lcmpeq (C _) (tgt := 1297) h dL_law_1291 (by decide) dL_law_1292 (fun h => ?_) (fun h => ?_)
      · refine rg_weak (C _) [some (.inr 1000), some (.inr 0), some (.inr 124), some (.inr 155), some (.inr 156), some (.inl l5), none, none, none] ⟨rfl, ⟨rfl, ⟨rfl, ⟨rfl, ⟨rfl, ⟨rfl, trivial⟩⟩⟩⟩⟩⟩ ?_
        exact L1297 _ (by omega) _ _ h
      · exact no_e h
  · exact no_e h
set_option maxHeartbeats 4000000 in
set_option maxRecDepth 100000 in
theorem law_K20 {l : Launch} {D : va_G} {ad : Nat → Nat} {cy : Nat → ClassId} {b L : Nat} {xs : Nat → Int32} {V : (Array Slot → Prop) → Vt} (hl : l.stackTraces = false) (hI : Inj ad) (A : RgA l D ad cy RL cL_law 9 20 10862 20000 [] (FL ad b L xs) V) {n : Nat} {r28 : Mem → Int32 → Option Unit} (ih28 : ∀ (κ : Nat), κ + 20 * n ≤ 20000 → ∀ (σ : Mem) (l5 : Int32), r28 σ l5 = some () → V pT κ σ 28 [some (.inr 1000), some (.inr 0), some (.inr 124), some (.inr 155), some (.inr 156), some (.inl l5), none, none, none] []) : ∀ (κ : Nat), κ + 20 * n + 20 ≤ 20000 → ∀ (σ : Mem) (l5 : Int32), fL_case20 L xs r28 σ l5 = some () → V pT κ σ 1300 [some (.inr 1000), some (.inr 0), some (.inr 124), some (.inr 155), some (.inr 156), some (.inl l5), none, none, none] [] := by
  have C := rga_C A
  have L1315 := law_L1315 hl hI A ih28
  intro κ hκ σ l5 h
  refine rg_aload_n (C _) dL_law_1300 rfl ?_
  refine rg_aload_n (C _) dL_law_1301 rfl ?_
  refine rg_iload (C _) dL_law_1302 rfl ?_
  refine rg_iconst (C _) ic_1 dL_law_1304 ?_
  refine rg_iadd (C _) dL_law_1305 ?_
  obtain ⟨hi, h⟩ := ck_e h
  refine rgl_sld (C _) hi dL_law_1306 ?_
  refine rg_if_eq (C _) (tgt := 1314) h (by decide) dL_law_1307 (fun hc h => ?_) (fun hc h => ?_)
  · refine rg_iconst (C _) ic_0 dL_law_1314 ?_
    exact L1315 _ (by omega) _ _ _ h
  · refine rg_iconst (C _) ic_1 dL_law_1310 ?_
    refine rg_goto (C _) (tgt := 1315) (by decide) dL_law_1311 ?_
    exact L1315 _ (by omega) _ _ _ h
set_option maxHeartbeats 4000000 in
set_option maxRecDepth 100000 in
theorem law_K21 {l : Launch} {D : va_G} {ad : Nat → Nat} {cy : Nat → ClassId} {b L : Nat} {xs : Nat → Int32} {V : (Array Slot → Prop) → Vt} (hl : l.stackTraces = false) (hI : Inj ad) (A : RgA l D ad cy RL cL_law 9 20 10862 20000 [] (FL ad b L xs) V) {n : Nat} {r28 : Mem → Int32 → Option Unit} (ih28 : ∀ (κ : Nat), κ + 20 * n ≤ 20000 → ∀ (σ : Mem) (l5 : Int32), r28 σ l5 = some () → V pT κ σ 28 [some (.inr 1000), some (.inr 0), some (.inr 124), some (.inr 155), some (.inr 156), some (.inl l5), none, none, none] []) : ∀ (κ : Nat), κ + 20 * n + 20 ≤ 20000 → ∀ (σ : Mem) (l5 : Int32), fL_case21 L xs r28 σ l5 = some () → V pT κ σ 1341 [some (.inr 1000), some (.inr 0), some (.inr 124), some (.inr 155), some (.inr 156), some (.inl l5), none, none, none] [] := by
  have C := rga_C A
  have L1406 := law_L1406 hl hI A ih28
  intro κ hκ σ l5 h
  refine rg_aload_n (C _) dL_law_1341 rfl ?_
  refine rg_aload_n (C _) dL_law_1342 rfl ?_
  refine rg_iload (C _) dL_law_1343 rfl ?_
  refine rg_iconst (C _) ic_1 dL_law_1345 ?_
  refine rg_iadd (C _) dL_law_1346 ?_
  obtain ⟨hi, h⟩ := ck_e h
  refine rgl_sld (C _) hi dL_law_1347 ?_
  refine rg_aload_n (C _) dL_law_1348 rfl ?_
  refine rg_iload (C _) dL_law_1349 rfl ?_
  refine rg_iconst (C _) ic_2 dL_law_1351 ?_
  refine rg_iadd (C _) dL_law_1352 ?_
  obtain ⟨hi, h⟩ := ck_e h
  refine rgl_sld (C _) hi dL_law_1353 ?_
  refine rg_aload_n (C _) dL_law_1354 rfl ?_
  refine bd_e h (fun v309 σ309 hf309 h => ?_)
  refine rg_callW (C _) gw_L_move ml_L_215 (cL_move_c hl hI hf309) rfl rfl (by exact Nat.le_of_ble_eq_true rfl) ⟨Nat.le_of_ble_eq_true rfl, Nat.le_of_ble_eq_true rfl, by omega⟩ dL_law_1355 ?_
  refine rg_istore (C pT) (by decide) dL_law_1358 ?_
  refine rg_aload_n (C _) dL_law_1360 rfl ?_
  refine rg_aload_n (C _) dL_law_1361 rfl ?_
  refine rg_iload (C _) dL_law_1362 rfl ?_
  refine rg_iconst (C _) ic_1 dL_law_1364 ?_
  refine rg_iadd (C _) dL_law_1365 ?_
  obtain ⟨hi, h⟩ := ck_e h
  refine rgl_sld (C _) hi dL_law_1366 ?_
  refine rg_aload_n (C _) dL_law_1367 rfl ?_
  refine rg_iload (C _) dL_law_1368 rfl ?_
  refine rg_iconst (C _) ic_2 dL_law_1370 ?_
  refine rg_iadd (C _) dL_law_1371 ?_
  obtain ⟨hi, h⟩ := ck_e h
  refine rgl_sld (C _) hi dL_law_1372 ?_
  refine bd_e h (fun v310 σ310 hf310 h => ?_)
  refine rg_callV (C _) g_X10_move hc_10 o_124 ml_L_217 (mX10_move hl hI hf310) rfl rfl (by exact Nat.le_of_ble_eq_true rfl) ⟨Nat.le_of_ble_eq_true rfl, Nat.le_of_ble_eq_true rfl, by omega⟩ dL_law_1373 ?_
  refine rg_istore (C pT) (by decide) dL_law_1376 ?_
  refine rg_aload_n (C _) dL_law_1378 rfl ?_
  refine bd_e h (fun v311 σ311 hf311 h => ?_)
  refine rg_callV (C _) g_X10_thrown hc_10 o_124 ml_L_146 (mX10_thrown hl hI hf311) rfl rfl (by exact Nat.le_of_ble_eq_true rfl) ⟨Nat.le_of_ble_eq_true rfl, Nat.le_of_ble_eq_true rfl, by omega⟩ dL_law_1379 ?_
  refine rg_iload (C _) dL_law_1382 rfl ?_
  refine rg_ic_eq (C _) (tgt := 1389) h (by decide) dL_law_1384 (fun hc h => ?_) (fun hc h => ?_)
  · refine rg_iload (C _) dL_law_1389 rfl ?_
    refine rg_if_ne (C _) (tgt := 1406) h (by decide) dL_law_1391 (fun hc h => ?_) (fun hc h => ?_)
    · refine rg_weak (C _) [some (.inr 1000), some (.inr 0), some (.inr 124), some (.inr 155), some (.inr 156), some (.inl l5), none, none, none] ⟨rfl, ⟨rfl, ⟨rfl, ⟨rfl, ⟨rfl, ⟨rfl, trivial⟩⟩⟩⟩⟩⟩ ?_
      exact L1406 _ (by omega) _ _ h
    · refine rg_aload_n (C _) dL_law_1394 rfl ?_
      refine rg_iconst (C _) ic_0 dL_law_1395 ?_
      refine rg_laload (C _) dL_law_1396 ?_
      refine rg_iload (C _) dL_law_1397 rfl ?_
      refine rg_i2l (C _) dL_law_1399 ?_
      refine rg_lcmpeq (C _) (tgt := 1406) h dL_law_1400 (by decide) dL_law_1401 (fun h => ?_) (fun h => ?_)
      · refine rg_weak (C _) [some (.inr 1000), some (.inr 0), some (.inr 124), some (.inr 155), some (.inr 156), some (.inl l5), none, none, none] ⟨rfl, ⟨rfl, ⟨rfl, ⟨rfl, ⟨rfl, ⟨rfl, trivial⟩⟩⟩⟩⟩⟩ ?_
        exact L1406 _ (by omega) _ _ h
      · exact no_e h
  · exact no_e h
set_option maxHeartbeats 4000000 in
set_option maxRecDepth 100000 in
theorem law_K22 {l : Launch} {D : va_G} {ad : Nat → Nat} {cy : Nat → ClassId} {b L : Nat} {xs : Nat → Int32} {V : (Array Slot → Prop) → Vt} (hl : l.stackTraces = false) (hI : Inj ad) (A : RgA l D ad cy RL cL_law 9 20 10862 20000 [] (FL ad b L xs) V) {n : Nat} {r28 : Mem → Int32 → Option Unit} (ih28 : ∀ (κ : Nat), κ + 20 * n ≤ 20000 → ∀ (σ : Mem) (l5 : Int32), r28 σ l5 = some () → V pT κ σ 28 [some (.inr 1000), some (.inr 0), some (.inr 124), some (.inr 155), some (.inr 156), some (.inl l5), none, none, none] []) : ∀ (κ : Nat), κ + 20 * n + 20 ≤ 20000 → ∀ (σ : Mem) (l5 : Int32), fL_case22 L xs r28 σ l5 = some () → V pT κ σ 1409 [some (.inr 1000), some (.inr 0), some (.inr 124), some (.inr 155), some (.inr 156), some (.inl l5), none, none, none] [] := by
  have C := rga_C A
  have L1450 := law_L1450 hl hI A ih28
  intro κ hκ σ l5 h
  refine rg_aload_n (C _) dL_law_1409 rfl ?_
  refine rg_aload_n (C _) dL_law_1410 rfl ?_
  refine bd_e h (fun v312 σ312 hf312 h => ?_)
  refine rg_callW (C _) gw_L_nextMove ml_L_218 (cL_nextMove_c hl hI hf312) rfl rfl (by exact Nat.le_of_ble_eq_true rfl) ⟨Nat.le_of_ble_eq_true rfl, Nat.le_of_ble_eq_true rfl, by omega⟩ dL_law_1411 ?_
  refine rg_istore (C pT) (by decide) dL_law_1414 ?_
  refine rg_aload_n (C _) dL_law_1416 rfl ?_
  refine bd_e h (fun v313 σ313 hf313 h => ?_)
  refine rg_callV (C _) g_X10_nextMove hc_10 o_124 ml_L_220 (mX10_nextMove hl hI hf313) rfl rfl (by exact Nat.le_of_ble_eq_true rfl) ⟨Nat.le_of_ble_eq_true rfl, Nat.le_of_ble_eq_true rfl, by omega⟩ dL_law_1417 ?_
  refine rg_istore (C pT) (by decide) dL_law_1420 ?_
  refine rg_aload_n (C _) dL_law_1422 rfl ?_
  refine bd_e h (fun v314 σ314 hf314 h => ?_)
  refine rg_callV (C _) g_X10_thrown hc_10 o_124 ml_L_146 (mX10_thrown hl hI hf314) rfl rfl (by exact Nat.le_of_ble_eq_true rfl) ⟨Nat.le_of_ble_eq_true rfl, Nat.le_of_ble_eq_true rfl, by omega⟩ dL_law_1423 ?_
  refine rg_iload (C _) dL_law_1426 rfl ?_
  refine rg_ic_eq (C _) (tgt := 1433) h (by decide) dL_law_1428 (fun hc h => ?_) (fun hc h => ?_)
  · refine rg_iload (C _) dL_law_1433 rfl ?_
    refine rg_if_ne (C _) (tgt := 1450) h (by decide) dL_law_1435 (fun hc h => ?_) (fun hc h => ?_)
    · refine rg_weak (C _) [some (.inr 1000), some (.inr 0), some (.inr 124), some (.inr 155), some (.inr 156), some (.inl l5), none, none, none] ⟨rfl, ⟨rfl, ⟨rfl, ⟨rfl, ⟨rfl, ⟨rfl, trivial⟩⟩⟩⟩⟩⟩ ?_
      exact L1450 _ (by omega) _ _ h
    · refine rg_aload_n (C _) dL_law_1438 rfl ?_
      refine rg_iconst (C _) ic_0 dL_law_1439 ?_
      refine rg_laload (C _) dL_law_1440 ?_
      refine rg_iload (C _) dL_law_1441 rfl ?_
      refine rg_i2l (C _) dL_law_1443 ?_
      refine rg_lcmpeq (C _) (tgt := 1450) h dL_law_1444 (by decide) dL_law_1445 (fun h => ?_) (fun h => ?_)
      · refine rg_weak (C _) [some (.inr 1000), some (.inr 0), some (.inr 124), some (.inr 155), some (.inr 156), some (.inl l5), none, none, none] ⟨rfl, ⟨rfl, ⟨rfl, ⟨rfl, ⟨rfl, ⟨rfl, trivial⟩⟩⟩⟩⟩⟩ ?_
        exact L1450 _ (by omega) _ _ h
      · exact no_e h
  · exact no_e h
set_option maxHeartbeats 4000000 in
set_option maxRecDepth 100000 in
theorem law_K23 {l : Launch} {D : va_G} {ad : Nat → Nat} {cy : Nat → ClassId} {b L : Nat} {xs : Nat → Int32} {V : (Array Slot → Prop) → Vt} (hl : l.stackTraces = false) (hI : Inj ad) (A : RgA l D ad cy RL cL_law 9 20 10862 20000 [] (FL ad b L xs) V) {n : Nat} {r28 : Mem → Int32 → Option Unit} (ih28 : ∀ (κ : Nat), κ + 20 * n ≤ 20000 → ∀ (σ : Mem) (l5 : Int32), r28 σ l5 = some () → V pT κ σ 28 [some (.inr 1000), some (.inr 0), some (.inr 124), some (.inr 155), some (.inr 156), some (.inl l5), none, none, none] []) : ∀ (κ : Nat), κ + 20 * n + 20 ≤ 20000 → ∀ (σ : Mem) (l5 : Int32), fL_case23 L xs r28 σ l5 = some () → V pT κ σ 1453 [some (.inr 1000), some (.inr 0), some (.inr 124), some (.inr 155), some (.inr 156), some (.inl l5), none, none, none] [] := by
  have C := rga_C A
  have L1525 := law_L1525 hl hI A ih28
  have L1519 := law_L1519 hl hI A ih28
  intro κ hκ σ l5 h
  refine rg_aload_n (C _) dL_law_1453 rfl ?_
  refine rg_aload_n (C _) dL_law_1454 rfl ?_
  refine rg_iload (C _) dL_law_1455 rfl ?_
  refine rg_iconst (C _) ic_1 dL_law_1457 ?_
  refine rg_iadd (C _) dL_law_1458 ?_
  obtain ⟨hi, h⟩ := ck_e h
  refine rgl_sld (C _) hi dL_law_1459 ?_
  refine rg_aload_n (C _) dL_law_1460 rfl ?_
  refine rg_iload (C _) dL_law_1461 rfl ?_
  refine rg_iconst (C _) ic_2 dL_law_1463 ?_
  refine rg_iadd (C _) dL_law_1464 ?_
  obtain ⟨hi, h⟩ := ck_e h
  refine rgl_sld (C _) hi dL_law_1465 ?_
  refine rg_aload_n (C _) dL_law_1466 rfl ?_
  refine bd_e h (fun v315 σ315 hf315 h => ?_)
  refine rg_callW (C _) gw_L_isForbidden ml_L_221 (cL_isForbidden_c hl hI hf315) rfl rfl (by exact Nat.le_of_ble_eq_true rfl) ⟨Nat.le_of_ble_eq_true rfl, Nat.le_of_ble_eq_true rfl, by omega⟩ dL_law_1467 ?_
  refine rg_istore (C pT) (by decide) dL_law_1470 ?_
  refine rg_aload_n (C _) dL_law_1472 rfl ?_
  refine rg_aload_n (C _) dL_law_1473 rfl ?_
  refine rg_iload (C _) dL_law_1474 rfl ?_
  refine rg_iconst (C _) ic_1 dL_law_1476 ?_
  refine rg_iadd (C _) dL_law_1477 ?_
  obtain ⟨hi, h⟩ := ck_e h
  refine rgl_sld (C _) hi dL_law_1478 ?_
  refine rg_aload_n (C _) dL_law_1479 rfl ?_
  refine rg_iload (C _) dL_law_1480 rfl ?_
  refine rg_iconst (C _) ic_2 dL_law_1482 ?_
  refine rg_iadd (C _) dL_law_1483 ?_
  obtain ⟨hi, h⟩ := ck_e h
  refine rgl_sld (C _) hi dL_law_1484 ?_
  refine bd_e h (fun v316 σ316 hf316 h => ?_)
  refine rg_callV (C _) g_X10_isForbidden hc_10 o_124 ml_L_223 (mX10_isForbidden hl hI hf316) rfl rfl (by exact Nat.le_of_ble_eq_true rfl) ⟨Nat.le_of_ble_eq_true rfl, Nat.le_of_ble_eq_true rfl, by omega⟩ dL_law_1485 ?_
  refine rg_istore (C pT) (by decide) dL_law_1488 ?_
  refine rg_aload_n (C _) dL_law_1490 rfl ?_
  refine bd_e h (fun v317 σ317 hf317 h => ?_)
  refine rg_callV (C _) g_X10_thrown hc_10 o_124 ml_L_146 (mX10_thrown hl hI hf317) rfl rfl (by exact Nat.le_of_ble_eq_true rfl) ⟨Nat.le_of_ble_eq_true rfl, Nat.le_of_ble_eq_true rfl, by omega⟩ dL_law_1491 ?_
  refine rg_iload (C _) dL_law_1494 rfl ?_
  refine rg_ic_eq (C _) (tgt := 1501) h (by decide) dL_law_1496 (fun hc h => ?_) (fun hc h => ?_)
  · refine rg_iload (C _) dL_law_1501 rfl ?_
    refine rg_if_ne (C _) (tgt := 1525) h (by decide) dL_law_1503 (fun hc h => ?_) (fun hc h => ?_)
    · refine rg_weak (C _) [some (.inr 1000), some (.inr 0), some (.inr 124), some (.inr 155), some (.inr 156), some (.inl l5), none, none, none] ⟨rfl, ⟨rfl, ⟨rfl, ⟨rfl, ⟨rfl, ⟨rfl, trivial⟩⟩⟩⟩⟩⟩ ?_
      exact L1525 _ (by omega) _ _ h
    · refine rg_aload_n (C _) dL_law_1506 rfl ?_
      refine rg_iconst (C _) ic_0 dL_law_1507 ?_
      refine rg_laload (C _) dL_law_1508 ?_
      refine rg_iload (C _) dL_law_1509 rfl ?_
      refine rg_if_eq (C _) (tgt := 1518) h (by decide) dL_law_1511 (fun hc h => ?_) (fun hc h => ?_)
      · refine rg_lconst (C _) (x := 0) (by decide) dL_law_1518 ?_
        refine rg_weak (C _) [some (.inr 1000), some (.inr 0), some (.inr 124), some (.inr 155), some (.inr 156), some (.inl l5), none, none, none] ⟨rfl, ⟨rfl, ⟨rfl, ⟨rfl, ⟨rfl, ⟨rfl, trivial⟩⟩⟩⟩⟩⟩ ?_
        exact L1519 _ (by omega) _ _ _ _ h
      · refine rg_lconst (C _) (x := 1) (by decide) dL_law_1514 ?_
        refine rg_goto (C _) (tgt := 1519) (by decide) dL_law_1515 ?_
        refine rg_weak (C _) [some (.inr 1000), some (.inr 0), some (.inr 124), some (.inr 155), some (.inr 156), some (.inl l5), none, none, none] ⟨rfl, ⟨rfl, ⟨rfl, ⟨rfl, ⟨rfl, ⟨rfl, trivial⟩⟩⟩⟩⟩⟩ ?_
        exact L1519 _ (by omega) _ _ _ _ h
  · exact no_e h
set_option maxHeartbeats 4000000 in
set_option maxRecDepth 100000 in
theorem law_K24 {l : Launch} {D : va_G} {ad : Nat → Nat} {cy : Nat → ClassId} {b L : Nat} {xs : Nat → Int32} {V : (Array Slot → Prop) → Vt} (hl : l.stackTraces = false) (hI : Inj ad) (A : RgA l D ad cy RL cL_law 9 20 10862 20000 [] (FL ad b L xs) V) {n : Nat} {r28 : Mem → Int32 → Option Unit} (ih28 : ∀ (κ : Nat), κ + 20 * n ≤ 20000 → ∀ (σ : Mem) (l5 : Int32), r28 σ l5 = some () → V pT κ σ 28 [some (.inr 1000), some (.inr 0), some (.inr 124), some (.inr 155), some (.inr 156), some (.inl l5), none, none, none] []) : ∀ (κ : Nat), κ + 20 * n + 20 ≤ 20000 → ∀ (σ : Mem) (l5 : Int32), fL_case24 L xs r28 σ l5 = some () → V pT κ σ 1528 [some (.inr 1000), some (.inr 0), some (.inr 124), some (.inr 155), some (.inr 156), some (.inl l5), none, none, none] [] := by
  have C := rga_C A
  have L2416 := law_L2416 hl hI A ih28
  intro κ hκ σ l5 h
  refine rg_aload_n (C _) dL_law_1528 rfl ?_
  refine bd_e h (fun v318 σ318 hf318 h => ?_)
  refine rg_callV (C _) g_X9_isLocalOptimum hc_9 o_0 ml_L_224 (mX9_isLocalOptimum hl hI hf318) rfl rfl (by exact Nat.le_of_ble_eq_true rfl) ⟨Nat.le_of_ble_eq_true rfl, Nat.le_of_ble_eq_true rfl, by omega⟩ dL_law_1529 ?_
  refine rg_aload_n (C _) dL_law_1532 rfl ?_
  refine bd_e h (fun v319 σ319 hf319 h => ?_)
  refine rg_callV (C _) g_X10_isLocalOptimum hc_10 o_124 ml_L_228 (mX10_isLocalOptimum hl hI hf319) rfl rfl (by exact Nat.le_of_ble_eq_true rfl) ⟨Nat.le_of_ble_eq_true rfl, Nat.le_of_ble_eq_true rfl, by omega⟩ dL_law_1533 ?_
  refine rg_ic_eq (C _) (tgt := 2416) h (by decide) dL_law_1536 (fun hc h => ?_) (fun hc h => ?_)
  · exact L2416 _ (by omega) _ _ h
  · exact no_e h
set_option maxHeartbeats 4000000 in
set_option maxRecDepth 100000 in
theorem law_K25 {l : Launch} {D : va_G} {ad : Nat → Nat} {cy : Nat → ClassId} {b L : Nat} {xs : Nat → Int32} {V : (Array Slot → Prop) → Vt} (hl : l.stackTraces = false) (hI : Inj ad) (A : RgA l D ad cy RL cL_law 9 20 10862 20000 [] (FL ad b L xs) V) {n : Nat} {r28 : Mem → Int32 → Option Unit} (ih28 : ∀ (κ : Nat), κ + 20 * n ≤ 20000 → ∀ (σ : Mem) (l5 : Int32), r28 σ l5 = some () → V pT κ σ 28 [some (.inr 1000), some (.inr 0), some (.inr 124), some (.inr 155), some (.inr 156), some (.inl l5), none, none, none] []) : ∀ (κ : Nat), κ + 20 * n + 20 ≤ 20000 → ∀ (σ : Mem) (l5 : Int32), fL_case25 L xs r28 σ l5 = some () → V pT κ σ 1541 [some (.inr 1000), some (.inr 0), some (.inr 124), some (.inr 155), some (.inr 156), some (.inl l5), none, none, none] [] := by
  have C := rga_C A
  have L1582 := law_L1582 hl hI A ih28
  intro κ hκ σ l5 h
  refine rg_aload_n (C _) dL_law_1541 rfl ?_
  refine rg_aload_n (C _) dL_law_1542 rfl ?_
  refine bd_e h (fun v320 σ320 hf320 h => ?_)
  refine rg_callW (C _) gw_L_step ml_L_229 (cL_step_c hl hI hf320) rfl rfl (by exact Nat.le_of_ble_eq_true rfl) ⟨Nat.le_of_ble_eq_true rfl, Nat.le_of_ble_eq_true rfl, by omega⟩ dL_law_1543 ?_
  refine rg_istore (C pT) (by decide) dL_law_1546 ?_
  refine rg_aload_n (C _) dL_law_1548 rfl ?_
  refine bd_e h (fun v321 σ321 hf321 h => ?_)
  refine rg_callV (C _) g_X10_step hc_10 o_124 ml_L_231 (mX10_step hl hI hf321) rfl rfl (by exact Nat.le_of_ble_eq_true rfl) ⟨Nat.le_of_ble_eq_true rfl, Nat.le_of_ble_eq_true rfl, by omega⟩ dL_law_1549 ?_
  refine rg_istore (C pT) (by decide) dL_law_1552 ?_
  refine rg_aload_n (C _) dL_law_1554 rfl ?_
  refine bd_e h (fun v322 σ322 hf322 h => ?_)
  refine rg_callV (C _) g_X10_thrown hc_10 o_124 ml_L_146 (mX10_thrown hl hI hf322) rfl rfl (by exact Nat.le_of_ble_eq_true rfl) ⟨Nat.le_of_ble_eq_true rfl, Nat.le_of_ble_eq_true rfl, by omega⟩ dL_law_1555 ?_
  refine rg_iload (C _) dL_law_1558 rfl ?_
  refine rg_ic_eq (C _) (tgt := 1565) h (by decide) dL_law_1560 (fun hc h => ?_) (fun hc h => ?_)
  · refine rg_iload (C _) dL_law_1565 rfl ?_
    refine rg_if_ne (C _) (tgt := 1582) h (by decide) dL_law_1567 (fun hc h => ?_) (fun hc h => ?_)
    · refine rg_weak (C _) [some (.inr 1000), some (.inr 0), some (.inr 124), some (.inr 155), some (.inr 156), some (.inl l5), none, none, none] ⟨rfl, ⟨rfl, ⟨rfl, ⟨rfl, ⟨rfl, ⟨rfl, trivial⟩⟩⟩⟩⟩⟩ ?_
      exact L1582 _ (by omega) _ _ h
    · refine rg_aload_n (C _) dL_law_1570 rfl ?_
      refine rg_iconst (C _) ic_0 dL_law_1571 ?_
      refine rg_laload (C _) dL_law_1572 ?_
      refine rg_iload (C _) dL_law_1573 rfl ?_
      refine rg_i2l (C _) dL_law_1575 ?_
      refine rg_lcmpeq (C _) (tgt := 1582) h dL_law_1576 (by decide) dL_law_1577 (fun h => ?_) (fun h => ?_)
      · refine rg_weak (C _) [some (.inr 1000), some (.inr 0), some (.inr 124), some (.inr 155), some (.inr 156), some (.inl l5), none, none, none] ⟨rfl, ⟨rfl, ⟨rfl, ⟨rfl, ⟨rfl, ⟨rfl, trivial⟩⟩⟩⟩⟩⟩ ?_
        exact L1582 _ (by omega) _ _ h
      · exact no_e h
  · exact no_e h
set_option maxHeartbeats 4000000 in
set_option maxRecDepth 100000 in
theorem law_K26 {l : Launch} {D : va_G} {ad : Nat → Nat} {cy : Nat → ClassId} {b L : Nat} {xs : Nat → Int32} {V : (Array Slot → Prop) → Vt} (hl : l.stackTraces = false) (hI : Inj ad) (A : RgA l D ad cy RL cL_law 9 20 10862 20000 [] (FL ad b L xs) V) {n : Nat} {r28 : Mem → Int32 → Option Unit} (ih28 : ∀ (κ : Nat), κ + 20 * n ≤ 20000 → ∀ (σ : Mem) (l5 : Int32), r28 σ l5 = some () → V pT κ σ 28 [some (.inr 1000), some (.inr 0), some (.inr 124), some (.inr 155), some (.inr 156), some (.inl l5), none, none, none] []) : ∀ (κ : Nat), κ + 20 * n + 20 ≤ 20000 → ∀ (σ : Mem) (l5 : Int32), fL_case26 L xs r28 σ l5 = some () → V pT κ σ 1585 [some (.inr 1000), some (.inr 0), some (.inr 124), some (.inr 155), some (.inr 156), some (.inl l5), none, none, none] [] := by
  have C := rga_C A
  have L1638 := law_L1638 hl hI A ih28
  intro κ hκ σ l5 h
  refine rg_aload_n (C _) dL_law_1585 rfl ?_
  refine rg_aload_n (C _) dL_law_1586 rfl ?_
  refine rg_iload (C _) dL_law_1587 rfl ?_
  refine rg_iconst (C _) ic_1 dL_law_1589 ?_
  refine rg_iadd (C _) dL_law_1590 ?_
  obtain ⟨hi, h⟩ := ck_e h
  refine rgl_sld (C _) hi dL_law_1591 ?_
  refine rg_aload_n (C _) dL_law_1592 rfl ?_
  refine bd_e h (fun v323 σ323 hf323 h => ?_)
  refine rg_callW (C _) gw_L_run ml_L_232 (cL_run_c hl hI hf323) rfl rfl (by exact Nat.le_of_ble_eq_true rfl) ⟨Nat.le_of_ble_eq_true rfl, Nat.le_of_ble_eq_true rfl, by omega⟩ dL_law_1593 ?_
  refine rg_istore (C pT) (by decide) dL_law_1596 ?_
  refine rg_aload_n (C _) dL_law_1598 rfl ?_
  refine rg_aload_n (C _) dL_law_1599 rfl ?_
  refine rg_iload (C _) dL_law_1600 rfl ?_
  refine rg_iconst (C _) ic_1 dL_law_1602 ?_
  refine rg_iadd (C _) dL_law_1603 ?_
  obtain ⟨hi, h⟩ := ck_e h
  refine rgl_sld (C _) hi dL_law_1604 ?_
  refine bd_e h (fun v324 σ324 hf324 h => ?_)
  refine rg_callV (C _) g_X10_run hc_10 o_124 ml_L_234 (mX10_run hl hI hf324) rfl rfl (by exact Nat.le_of_ble_eq_true rfl) ⟨Nat.le_of_ble_eq_true rfl, Nat.le_of_ble_eq_true rfl, by omega⟩ dL_law_1605 ?_
  refine rg_istore (C pT) (by decide) dL_law_1608 ?_
  refine rg_aload_n (C _) dL_law_1610 rfl ?_
  refine bd_e h (fun v325 σ325 hf325 h => ?_)
  refine rg_callV (C _) g_X10_thrown hc_10 o_124 ml_L_146 (mX10_thrown hl hI hf325) rfl rfl (by exact Nat.le_of_ble_eq_true rfl) ⟨Nat.le_of_ble_eq_true rfl, Nat.le_of_ble_eq_true rfl, by omega⟩ dL_law_1611 ?_
  refine rg_iload (C _) dL_law_1614 rfl ?_
  refine rg_ic_eq (C _) (tgt := 1621) h (by decide) dL_law_1616 (fun hc h => ?_) (fun hc h => ?_)
  · refine rg_iload (C _) dL_law_1621 rfl ?_
    refine rg_if_ne (C _) (tgt := 1638) h (by decide) dL_law_1623 (fun hc h => ?_) (fun hc h => ?_)
    · refine rg_weak (C _) [some (.inr 1000), some (.inr 0), some (.inr 124), some (.inr 155), some (.inr 156), some (.inl l5), none, none, none] ⟨rfl, ⟨rfl, ⟨rfl, ⟨rfl, ⟨rfl, ⟨rfl, trivial⟩⟩⟩⟩⟩⟩ ?_
      exact L1638 _ (by omega) _ _ h
    · refine rg_aload_n (C _) dL_law_1626 rfl ?_
      refine rg_iconst (C _) ic_0 dL_law_1627 ?_
      refine rg_laload (C _) dL_law_1628 ?_
      refine rg_iload (C _) dL_law_1629 rfl ?_
      refine rg_i2l (C _) dL_law_1631 ?_
      refine rg_lcmpeq (C _) (tgt := 1638) h dL_law_1632 (by decide) dL_law_1633 (fun h => ?_) (fun h => ?_)
      · refine rg_weak (C _) [some (.inr 1000), some (.inr 0), some (.inr 124), some (.inr 155), some (.inr 156), some (.inl l5), none, none, none] ⟨rfl, ⟨rfl, ⟨rfl, ⟨rfl, ⟨rfl, ⟨rfl, trivial⟩⟩⟩⟩⟩⟩ ?_
        exact L1638 _ (by omega) _ _ h
      · exact no_e h
  · exact no_e h
set_option maxHeartbeats 4000000 in
set_option maxRecDepth 100000 in
theorem law_K27 {l : Launch} {D : va_G} {ad : Nat → Nat} {cy : Nat → ClassId} {b L : Nat} {xs : Nat → Int32} {V : (Array Slot → Prop) → Vt} (hl : l.stackTraces = false) (hI : Inj ad) (A : RgA l D ad cy RL cL_law 9 20 10862 20000 [] (FL ad b L xs) V) {n : Nat} {r28 : Mem → Int32 → Option Unit} (ih28 : ∀ (κ : Nat), κ + 20 * n ≤ 20000 → ∀ (σ : Mem) (l5 : Int32), r28 σ l5 = some () → V pT κ σ 28 [some (.inr 1000), some (.inr 0), some (.inr 124), some (.inr 155), some (.inr 156), some (.inl l5), none, none, none] []) : ∀ (κ : Nat), κ + 20 * n + 20 ≤ 20000 → ∀ (σ : Mem) (l5 : Int32), fL_case27 L xs r28 σ l5 = some () → V pT κ σ 1641 [some (.inr 1000), some (.inr 0), some (.inr 124), some (.inr 155), some (.inr 156), some (.inl l5), none, none, none] [] := by
  have C := rga_C A
  have L2416 := law_L2416 hl hI A ih28
  intro κ hκ σ l5 h
  refine rg_aload_n (C _) dL_law_1641 rfl ?_
  refine bd_e h (fun v326 σ326 hf326 h => ?_)
  refine rg_callV (C _) g_X9_descend hc_9 o_0 ml_L_235 (mX9_descend hl hI hf326) rfl rfl (by exact Nat.le_of_ble_eq_true rfl) ⟨Nat.le_of_ble_eq_true rfl, Nat.le_of_ble_eq_true rfl, by omega⟩ dL_law_1642 ?_
  refine rg_aload_n (C _) dL_law_1645 rfl ?_
  refine bd_e h (fun v327 σ327 hf327 h => ?_)
  refine rg_callV (C _) g_X10_descend hc_10 o_124 ml_L_238 (mX10_descend hl hI hf327) rfl rfl (by exact Nat.le_of_ble_eq_true rfl) ⟨Nat.le_of_ble_eq_true rfl, Nat.le_of_ble_eq_true rfl, by omega⟩ dL_law_1646 ?_
  refine rg_ic_eq (C _) (tgt := 2416) h (by decide) dL_law_1649 (fun hc h => ?_) (fun hc h => ?_)
  · exact L2416 _ (by omega) _ _ h
  · exact no_e h
set_option maxHeartbeats 4000000 in
set_option maxRecDepth 100000 in
theorem law_K28 {l : Launch} {D : va_G} {ad : Nat → Nat} {cy : Nat → ClassId} {b L : Nat} {xs : Nat → Int32} {V : (Array Slot → Prop) → Vt} (hl : l.stackTraces = false) (hI : Inj ad) (A : RgA l D ad cy RL cL_law 9 20 10862 20000 [] (FL ad b L xs) V) {n : Nat} {r28 : Mem → Int32 → Option Unit} (ih28 : ∀ (κ : Nat), κ + 20 * n ≤ 20000 → ∀ (σ : Mem) (l5 : Int32), r28 σ l5 = some () → V pT κ σ 28 [some (.inr 1000), some (.inr 0), some (.inr 124), some (.inr 155), some (.inr 156), some (.inl l5), none, none, none] []) : ∀ (κ : Nat), κ + 20 * n + 20 ≤ 20000 → ∀ (σ : Mem) (l5 : Int32), fL_case28 L xs r28 σ l5 = some () → V pT κ σ 1654 [some (.inr 1000), some (.inr 0), some (.inr 124), some (.inr 155), some (.inr 156), some (.inl l5), none, none, none] [] := by
  have C := rga_C A
  have L2416 := law_L2416 hl hI A ih28
  intro κ hκ σ l5 h
  refine rg_aload_n (C _) dL_law_1654 rfl ?_
  refine bd_e h (fun v328 σ328 hf328 h => ?_)
  refine rg_callV (C _) g_X9_restart hc_9 o_0 ml_L_239 (mX9_restart hl hI hf328) rfl rfl (by exact Nat.le_of_ble_eq_true rfl) ⟨Nat.le_of_ble_eq_true rfl, Nat.le_of_ble_eq_true rfl, by omega⟩ dL_law_1655 ?_
  refine rg_aload_n (C _) dL_law_1658 rfl ?_
  refine bd_e h (fun v329 σ329 hf329 h => ?_)
  refine rg_callV (C _) g_X10_restart hc_10 o_124 ml_L_242 (mX10_restart hl hI hf329) rfl rfl (by exact Nat.le_of_ble_eq_true rfl) ⟨Nat.le_of_ble_eq_true rfl, Nat.le_of_ble_eq_true rfl, by omega⟩ dL_law_1659 ?_
  refine rg_ic_eq (C _) (tgt := 2416) h (by decide) dL_law_1662 (fun hc h => ?_) (fun hc h => ?_)
  · exact L2416 _ (by omega) _ _ h
  · exact no_e h
set_option maxHeartbeats 4000000 in
set_option maxRecDepth 100000 in
theorem law_K29 {l : Launch} {D : va_G} {ad : Nat → Nat} {cy : Nat → ClassId} {b L : Nat} {xs : Nat → Int32} {V : (Array Slot → Prop) → Vt} (hl : l.stackTraces = false) (hI : Inj ad) (A : RgA l D ad cy RL cL_law 9 20 10862 20000 [] (FL ad b L xs) V) {n : Nat} {r28 : Mem → Int32 → Option Unit} (ih28 : ∀ (κ : Nat), κ + 20 * n ≤ 20000 → ∀ (σ : Mem) (l5 : Int32), r28 σ l5 = some () → V pT κ σ 28 [some (.inr 1000), some (.inr 0), some (.inr 124), some (.inr 155), some (.inr 156), some (.inl l5), none, none, none] []) : ∀ (κ : Nat), κ + 20 * n + 20 ≤ 20000 → ∀ (σ : Mem) (l5 : Int32), fL_case29 L xs r28 σ l5 = some () → V pT κ σ 1667 [some (.inr 1000), some (.inr 0), some (.inr 124), some (.inr 155), some (.inr 156), some (.inl l5), none, none, none] [] := by
  have C := rga_C A
  have L1720 := law_L1720 hl hI A ih28
  intro κ hκ σ l5 h
  refine rg_aload_n (C _) dL_law_1667 rfl ?_
  refine rg_aload_n (C _) dL_law_1668 rfl ?_
  refine rg_iload (C _) dL_law_1669 rfl ?_
  refine rg_iconst (C _) ic_1 dL_law_1671 ?_
  refine rg_iadd (C _) dL_law_1672 ?_
  obtain ⟨hi, h⟩ := ck_e h
  refine rgl_sld (C _) hi dL_law_1673 ?_
  refine rg_aload_n (C _) dL_law_1674 rfl ?_
  refine bd_e h (fun v330 σ330 hf330 h => ?_)
  refine rg_callW (C _) gw_L_search ml_L_243 (cL_search_c hl hI hf330) rfl rfl (by exact Nat.le_of_ble_eq_true rfl) ⟨Nat.le_of_ble_eq_true rfl, Nat.le_of_ble_eq_true rfl, by omega⟩ dL_law_1675 ?_
  refine rg_istore (C pT) (by decide) dL_law_1678 ?_
  refine rg_aload_n (C _) dL_law_1680 rfl ?_
  refine rg_aload_n (C _) dL_law_1681 rfl ?_
  refine rg_iload (C _) dL_law_1682 rfl ?_
  refine rg_iconst (C _) ic_1 dL_law_1684 ?_
  refine rg_iadd (C _) dL_law_1685 ?_
  obtain ⟨hi, h⟩ := ck_e h
  refine rgl_sld (C _) hi dL_law_1686 ?_
  refine bd_e h (fun v331 σ331 hf331 h => ?_)
  refine rg_callV (C _) g_X10_search hc_10 o_124 ml_L_245 (mX10_search hl hI hf331) rfl rfl (by exact Nat.le_of_ble_eq_true rfl) ⟨Nat.le_of_ble_eq_true rfl, Nat.le_of_ble_eq_true rfl, by omega⟩ dL_law_1687 ?_
  refine rg_istore (C pT) (by decide) dL_law_1690 ?_
  refine rg_aload_n (C _) dL_law_1692 rfl ?_
  refine bd_e h (fun v332 σ332 hf332 h => ?_)
  refine rg_callV (C _) g_X10_thrown hc_10 o_124 ml_L_146 (mX10_thrown hl hI hf332) rfl rfl (by exact Nat.le_of_ble_eq_true rfl) ⟨Nat.le_of_ble_eq_true rfl, Nat.le_of_ble_eq_true rfl, by omega⟩ dL_law_1693 ?_
  refine rg_iload (C _) dL_law_1696 rfl ?_
  refine rg_ic_eq (C _) (tgt := 1703) h (by decide) dL_law_1698 (fun hc h => ?_) (fun hc h => ?_)
  · refine rg_iload (C _) dL_law_1703 rfl ?_
    refine rg_if_ne (C _) (tgt := 1720) h (by decide) dL_law_1705 (fun hc h => ?_) (fun hc h => ?_)
    · refine rg_weak (C _) [some (.inr 1000), some (.inr 0), some (.inr 124), some (.inr 155), some (.inr 156), some (.inl l5), none, none, none] ⟨rfl, ⟨rfl, ⟨rfl, ⟨rfl, ⟨rfl, ⟨rfl, trivial⟩⟩⟩⟩⟩⟩ ?_
      exact L1720 _ (by omega) _ _ h
    · refine rg_aload_n (C _) dL_law_1708 rfl ?_
      refine rg_iconst (C _) ic_0 dL_law_1709 ?_
      refine rg_laload (C _) dL_law_1710 ?_
      refine rg_iload (C _) dL_law_1711 rfl ?_
      refine rg_i2l (C _) dL_law_1713 ?_
      refine rg_lcmpeq (C _) (tgt := 1720) h dL_law_1714 (by decide) dL_law_1715 (fun h => ?_) (fun h => ?_)
      · refine rg_weak (C _) [some (.inr 1000), some (.inr 0), some (.inr 124), some (.inr 155), some (.inr 156), some (.inl l5), none, none, none] ⟨rfl, ⟨rfl, ⟨rfl, ⟨rfl, ⟨rfl, ⟨rfl, trivial⟩⟩⟩⟩⟩⟩ ?_
        exact L1720 _ (by omega) _ _ h
      · exact no_e h
  · exact no_e h
set_option maxHeartbeats 4000000 in
set_option maxRecDepth 100000 in
theorem law_K30 {l : Launch} {D : va_G} {ad : Nat → Nat} {cy : Nat → ClassId} {b L : Nat} {xs : Nat → Int32} {V : (Array Slot → Prop) → Vt} (hl : l.stackTraces = false) (hI : Inj ad) (A : RgA l D ad cy RL cL_law 9 20 10862 20000 [] (FL ad b L xs) V) {n : Nat} {r28 : Mem → Int32 → Option Unit} (ih28 : ∀ (κ : Nat), κ + 20 * n ≤ 20000 → ∀ (σ : Mem) (l5 : Int32), r28 σ l5 = some () → V pT κ σ 28 [some (.inr 1000), some (.inr 0), some (.inr 124), some (.inr 155), some (.inr 156), some (.inl l5), none, none, none] []) : ∀ (κ : Nat), κ + 20 * n + 20 ≤ 20000 → ∀ (σ : Mem) (l5 : Int32), fL_case30 L xs r28 σ l5 = some () → V pT κ σ 1723 [some (.inr 1000), some (.inr 0), some (.inr 124), some (.inr 155), some (.inr 156), some (.inl l5), none, none, none] [] := by
  have C := rga_C A
  have L2416 := law_L2416 hl hI A ih28
  intro κ hκ σ l5 h
  refine rg_aload_n (C _) dL_law_1723 rfl ?_
  refine bd_e h (fun v333 σ333 hf333 h => ?_)
  refine rg_callV (C _) g_X9_logSize hc_9 o_0 ml_L_246 (mX9_logSize hl hI hf333) rfl rfl (by exact Nat.le_of_ble_eq_true rfl) ⟨Nat.le_of_ble_eq_true rfl, Nat.le_of_ble_eq_true rfl, by omega⟩ dL_law_1724 ?_
  refine rg_aload_n (C _) dL_law_1727 rfl ?_
  refine bd_e h (fun v334 σ334 hf334 h => ?_)
  refine rg_callV (C _) g_X10_logSize hc_10 o_124 ml_L_249 (mX10_logSize hl hI hf334) rfl rfl (by exact Nat.le_of_ble_eq_true rfl) ⟨Nat.le_of_ble_eq_true rfl, Nat.le_of_ble_eq_true rfl, by omega⟩ dL_law_1728 ?_
  refine rg_ic_eq (C _) (tgt := 2416) h (by decide) dL_law_1731 (fun hc h => ?_) (fun hc h => ?_)
  · exact L2416 _ (by omega) _ _ h
  · exact no_e h
set_option maxHeartbeats 4000000 in
set_option maxRecDepth 100000 in
theorem law_K31 {l : Launch} {D : va_G} {ad : Nat → Nat} {cy : Nat → ClassId} {b L : Nat} {xs : Nat → Int32} {V : (Array Slot → Prop) → Vt} (hl : l.stackTraces = false) (hI : Inj ad) (A : RgA l D ad cy RL cL_law 9 20 10862 20000 [] (FL ad b L xs) V) {n : Nat} {r28 : Mem → Int32 → Option Unit} (ih28 : ∀ (κ : Nat), κ + 20 * n ≤ 20000 → ∀ (σ : Mem) (l5 : Int32), r28 σ l5 = some () → V pT κ σ 28 [some (.inr 1000), some (.inr 0), some (.inr 124), some (.inr 155), some (.inr 156), some (.inl l5), none, none, none] []) : ∀ (κ : Nat), κ + 20 * n + 20 ≤ 20000 → ∀ (σ : Mem) (l5 : Int32), fL_case31 L xs r28 σ l5 = some () → V pT κ σ 1736 [some (.inr 1000), some (.inr 0), some (.inr 124), some (.inr 155), some (.inr 156), some (.inl l5), none, none, none] [] := by
  have C := rga_C A
  have L1801 := law_L1801 hl hI A ih28
  intro κ hκ σ l5 h
  refine rg_aload_n (C _) dL_law_1736 rfl ?_
  refine rg_aload_n (C _) dL_law_1737 rfl ?_
  refine rg_iload (C _) dL_law_1738 rfl ?_
  refine rg_iconst (C _) ic_1 dL_law_1740 ?_
  refine rg_iadd (C _) dL_law_1741 ?_
  obtain ⟨hi, h⟩ := ck_e h
  refine rgl_sld (C _) hi dL_law_1742 ?_
  refine rg_aload_n (C _) dL_law_1743 rfl ?_
  refine rg_iload (C _) dL_law_1744 rfl ?_
  refine rg_iconst (C _) ic_2 dL_law_1746 ?_
  refine rg_iadd (C _) dL_law_1747 ?_
  obtain ⟨hi, h⟩ := ck_e h
  refine rgl_sld (C _) hi dL_law_1748 ?_
  refine rg_aload_n (C _) dL_law_1749 rfl ?_
  refine bd_e h (fun v335 σ335 hf335 h => ?_)
  refine rg_callW (C _) gw_L_log ml_L_250 (cL_log_c hl hI hf335) rfl rfl (by exact Nat.le_of_ble_eq_true rfl) ⟨Nat.le_of_ble_eq_true rfl, Nat.le_of_ble_eq_true rfl, by omega⟩ dL_law_1750 ?_
  refine rg_istore (C pT) (by decide) dL_law_1753 ?_
  refine rg_aload_n (C _) dL_law_1755 rfl ?_
  refine rg_aload_n (C _) dL_law_1756 rfl ?_
  refine rg_iload (C _) dL_law_1757 rfl ?_
  refine rg_iconst (C _) ic_1 dL_law_1759 ?_
  refine rg_iadd (C _) dL_law_1760 ?_
  obtain ⟨hi, h⟩ := ck_e h
  refine rgl_sld (C _) hi dL_law_1761 ?_
  refine rg_aload_n (C _) dL_law_1762 rfl ?_
  refine rg_iload (C _) dL_law_1763 rfl ?_
  refine rg_iconst (C _) ic_2 dL_law_1765 ?_
  refine rg_iadd (C _) dL_law_1766 ?_
  obtain ⟨hi, h⟩ := ck_e h
  refine rgl_sld (C _) hi dL_law_1767 ?_
  refine bd_e h (fun v336 σ336 hf336 h => ?_)
  refine rg_callV (C _) g_X10_log hc_10 o_124 ml_L_252 (mX10_log hl hI hf336) rfl rfl (by exact Nat.le_of_ble_eq_true rfl) ⟨Nat.le_of_ble_eq_true rfl, Nat.le_of_ble_eq_true rfl, by omega⟩ dL_law_1768 ?_
  refine rg_istore (C pT) (by decide) dL_law_1771 ?_
  refine rg_aload_n (C _) dL_law_1773 rfl ?_
  refine bd_e h (fun v337 σ337 hf337 h => ?_)
  refine rg_callV (C _) g_X10_thrown hc_10 o_124 ml_L_146 (mX10_thrown hl hI hf337) rfl rfl (by exact Nat.le_of_ble_eq_true rfl) ⟨Nat.le_of_ble_eq_true rfl, Nat.le_of_ble_eq_true rfl, by omega⟩ dL_law_1774 ?_
  refine rg_iload (C _) dL_law_1777 rfl ?_
  refine rg_ic_eq (C _) (tgt := 1784) h (by decide) dL_law_1779 (fun hc h => ?_) (fun hc h => ?_)
  · refine rg_iload (C _) dL_law_1784 rfl ?_
    refine rg_if_ne (C _) (tgt := 1801) h (by decide) dL_law_1786 (fun hc h => ?_) (fun hc h => ?_)
    · refine rg_weak (C _) [some (.inr 1000), some (.inr 0), some (.inr 124), some (.inr 155), some (.inr 156), some (.inl l5), none, none, none] ⟨rfl, ⟨rfl, ⟨rfl, ⟨rfl, ⟨rfl, ⟨rfl, trivial⟩⟩⟩⟩⟩⟩ ?_
      exact L1801 _ (by omega) _ _ h
    · refine rg_aload_n (C _) dL_law_1789 rfl ?_
      refine rg_iconst (C _) ic_0 dL_law_1790 ?_
      refine rg_laload (C _) dL_law_1791 ?_
      refine rg_iload (C _) dL_law_1792 rfl ?_
      refine rg_i2l (C _) dL_law_1794 ?_
      refine rg_lcmpeq (C _) (tgt := 1801) h dL_law_1795 (by decide) dL_law_1796 (fun h => ?_) (fun h => ?_)
      · refine rg_weak (C _) [some (.inr 1000), some (.inr 0), some (.inr 124), some (.inr 155), some (.inr 156), some (.inl l5), none, none, none] ⟨rfl, ⟨rfl, ⟨rfl, ⟨rfl, ⟨rfl, ⟨rfl, trivial⟩⟩⟩⟩⟩⟩ ?_
        exact L1801 _ (by omega) _ _ h
      · exact no_e h
  · exact no_e h
set_option maxHeartbeats 4000000 in
set_option maxRecDepth 100000 in
theorem law_K32 {l : Launch} {D : va_G} {ad : Nat → Nat} {cy : Nat → ClassId} {b L : Nat} {xs : Nat → Int32} {V : (Array Slot → Prop) → Vt} (hl : l.stackTraces = false) (hI : Inj ad) (A : RgA l D ad cy RL cL_law 9 20 10862 20000 [] (FL ad b L xs) V) {n : Nat} {r28 : Mem → Int32 → Option Unit} (ih28 : ∀ (κ : Nat), κ + 20 * n ≤ 20000 → ∀ (σ : Mem) (l5 : Int32), r28 σ l5 = some () → V pT κ σ 28 [some (.inr 1000), some (.inr 0), some (.inr 124), some (.inr 155), some (.inr 156), some (.inl l5), none, none, none] []) : ∀ (κ : Nat), κ + 20 * n + 20 ≤ 20000 → ∀ (σ : Mem) (l5 : Int32), fL_case32 L xs r28 σ l5 = some () → V pT κ σ 1804 [some (.inr 1000), some (.inr 0), some (.inr 124), some (.inr 155), some (.inr 156), some (.inl l5), none, none, none] [] := by
  have C := rga_C A
  have L1866 := law_L1866 hl hI A ih28
  intro κ hκ σ l5 h
  refine rg_aload_n (C _) dL_law_1804 rfl ?_
  refine rg_aload (C _) dL_law_1805 rfl ?_
  refine bd_e h (fun v338 σ338 hf338 h => ?_)
  refine rg_callW (C _) gw_L_improvingShare ml_L_253 (cL_improvingShare_c hl hI hf338) rfl rfl (by exact Nat.le_of_ble_eq_true rfl) ⟨Nat.le_of_ble_eq_true rfl, Nat.le_of_ble_eq_true rfl, by omega⟩ dL_law_1807 ?_
  refine rg_istore (C pT) (by decide) dL_law_1810 ?_
  refine rg_aload_n (C _) dL_law_1812 rfl ?_
  refine bd_e h (fun v339 σ339 hf339 h => ?_)
  refine rg_callV (C _) g_X10_improvingShare hc_10 o_124 ml_L_256 (mX10_improvingShare hl hI hf339) rfl rfl (by exact Nat.le_of_ble_eq_true rfl) ⟨Nat.le_of_ble_eq_true rfl, Nat.le_of_ble_eq_true rfl, by omega⟩ dL_law_1813 ?_
  refine rga_dstore A dL_law_1816 ?_
  refine rg_aload_n (C _) dL_law_1818 rfl ?_
  refine bd_e h (fun v340 σ340 hf340 h => ?_)
  refine rg_callV (C _) g_X10_thrown hc_10 o_124 ml_L_146 (mX10_thrown hl hI hf340) rfl rfl (by exact Nat.le_of_ble_eq_true rfl) ⟨Nat.le_of_ble_eq_true rfl, Nat.le_of_ble_eq_true rfl, by omega⟩ dL_law_1819 ?_
  refine rg_iload (C _) dL_law_1822 rfl ?_
  refine rg_ic_eq (C _) (tgt := 1829) h (by decide) dL_law_1824 (fun hc h => ?_) (fun hc h => ?_)
  · refine rg_iload (C _) dL_law_1829 rfl ?_
    refine rg_if_ne (C _) (tgt := 1866) h (by decide) dL_law_1831 (fun hc h => ?_) (fun hc h => ?_)
    · refine rga_drop A ?_
      refine rg_weak (C _) [some (.inr 1000), some (.inr 0), some (.inr 124), some (.inr 155), some (.inr 156), some (.inl l5), none, none, none] ⟨rfl, ⟨rfl, ⟨rfl, ⟨rfl, ⟨rfl, ⟨rfl, trivial⟩⟩⟩⟩⟩⟩ ?_
      exact L1866 _ (by omega) _ _ h
    · refine rg_aload (C _) dL_law_1834 rfl ?_
      refine rg_iconst (C _) ic_0 dL_law_1836 ?_
      refine rg_daload (C _) dL_law_1837 ?_
      refine rgl_dload (C _) dL_law_1838 ?_
      refine rg_dcmpeq (C _) (tgt := 1866) h dL_law_1840 (by decide) dL_law_1841 (fun h => ?_) (fun h => no_e h)
      refine rga_drop A ?_
      refine rg_weak (C _) [some (.inr 1000), some (.inr 0), some (.inr 124), some (.inr 155), some (.inr 156), some (.inl l5), none, none, none] ⟨rfl, ⟨rfl, ⟨rfl, ⟨rfl, ⟨rfl, ⟨rfl, trivial⟩⟩⟩⟩⟩⟩ ?_
      exact L1866 _ (by omega) _ _ h
  · exact no_e h
set_option maxHeartbeats 4000000 in
set_option maxRecDepth 100000 in
theorem law_K33 {l : Launch} {D : va_G} {ad : Nat → Nat} {cy : Nat → ClassId} {b L : Nat} {xs : Nat → Int32} {V : (Array Slot → Prop) → Vt} (hl : l.stackTraces = false) (hI : Inj ad) (A : RgA l D ad cy RL cL_law 9 20 10862 20000 [] (FL ad b L xs) V) {n : Nat} {r28 : Mem → Int32 → Option Unit} (ih28 : ∀ (κ : Nat), κ + 20 * n ≤ 20000 → ∀ (σ : Mem) (l5 : Int32), r28 σ l5 = some () → V pT κ σ 28 [some (.inr 1000), some (.inr 0), some (.inr 124), some (.inr 155), some (.inr 156), some (.inl l5), none, none, none] []) : ∀ (κ : Nat), κ + 20 * n + 20 ≤ 20000 → ∀ (σ : Mem) (l5 : Int32), fL_case33 L xs r28 σ l5 = some () → V pT κ σ 1869 [some (.inr 1000), some (.inr 0), some (.inr 124), some (.inr 155), some (.inr 156), some (.inl l5), none, none, none] [] := by
  have C := rga_C A
  have L1910 := law_L1910 hl hI A ih28
  intro κ hκ σ l5 h
  refine rg_aload_n (C _) dL_law_1869 rfl ?_
  refine rg_aload_n (C _) dL_law_1870 rfl ?_
  refine bd_e h (fun v341 σ341 hf341 h => ?_)
  refine rg_callW (C _) gw_L_optimum ml_L_257 (cL_optimum_c hl hI hf341) rfl rfl (by exact Nat.le_of_ble_eq_true rfl) ⟨Nat.le_of_ble_eq_true rfl, Nat.le_of_ble_eq_true rfl, by omega⟩ dL_law_1871 ?_
  refine rg_istore (C pT) (by decide) dL_law_1874 ?_
  refine rg_aload_n (C _) dL_law_1876 rfl ?_
  refine bd_e h (fun v342 σ342 hf342 h => ?_)
  refine rg_callV (C _) g_X10_optimum hc_10 o_124 ml_L_259 (mX10_optimum hl hI hf342) rfl rfl (by exact Nat.le_of_ble_eq_true rfl) ⟨Nat.le_of_ble_eq_true rfl, Nat.le_of_ble_eq_true rfl, by omega⟩ dL_law_1877 ?_
  refine rg_istore (C pT) (by decide) dL_law_1880 ?_
  refine rg_aload_n (C _) dL_law_1882 rfl ?_
  refine bd_e h (fun v343 σ343 hf343 h => ?_)
  refine rg_callV (C _) g_X10_thrown hc_10 o_124 ml_L_146 (mX10_thrown hl hI hf343) rfl rfl (by exact Nat.le_of_ble_eq_true rfl) ⟨Nat.le_of_ble_eq_true rfl, Nat.le_of_ble_eq_true rfl, by omega⟩ dL_law_1883 ?_
  refine rg_iload (C _) dL_law_1886 rfl ?_
  refine rg_ic_eq (C _) (tgt := 1893) h (by decide) dL_law_1888 (fun hc h => ?_) (fun hc h => ?_)
  · refine rg_iload (C _) dL_law_1893 rfl ?_
    refine rg_if_ne (C _) (tgt := 1910) h (by decide) dL_law_1895 (fun hc h => ?_) (fun hc h => ?_)
    · refine rg_weak (C _) [some (.inr 1000), some (.inr 0), some (.inr 124), some (.inr 155), some (.inr 156), some (.inl l5), none, none, none] ⟨rfl, ⟨rfl, ⟨rfl, ⟨rfl, ⟨rfl, ⟨rfl, trivial⟩⟩⟩⟩⟩⟩ ?_
      exact L1910 _ (by omega) _ _ h
    · refine rg_aload_n (C _) dL_law_1898 rfl ?_
      refine rg_iconst (C _) ic_0 dL_law_1899 ?_
      refine rg_laload (C _) dL_law_1900 ?_
      refine rg_iload (C _) dL_law_1901 rfl ?_
      refine rg_i2l (C _) dL_law_1903 ?_
      refine rg_lcmpeq (C _) (tgt := 1910) h dL_law_1904 (by decide) dL_law_1905 (fun h => ?_) (fun h => ?_)
      · refine rg_weak (C _) [some (.inr 1000), some (.inr 0), some (.inr 124), some (.inr 155), some (.inr 156), some (.inl l5), none, none, none] ⟨rfl, ⟨rfl, ⟨rfl, ⟨rfl, ⟨rfl, ⟨rfl, trivial⟩⟩⟩⟩⟩⟩ ?_
        exact L1910 _ (by omega) _ _ h
      · exact no_e h
  · exact no_e h
set_option maxHeartbeats 4000000 in
set_option maxRecDepth 100000 in
theorem law_K34 {l : Launch} {D : va_G} {ad : Nat → Nat} {cy : Nat → ClassId} {b L : Nat} {xs : Nat → Int32} {V : (Array Slot → Prop) → Vt} (hl : l.stackTraces = false) (hI : Inj ad) (A : RgA l D ad cy RL cL_law 9 20 10862 20000 [] (FL ad b L xs) V) {n : Nat} {r28 : Mem → Int32 → Option Unit} (ih28 : ∀ (κ : Nat), κ + 20 * n ≤ 20000 → ∀ (σ : Mem) (l5 : Int32), r28 σ l5 = some () → V pT κ σ 28 [some (.inr 1000), some (.inr 0), some (.inr 124), some (.inr 155), some (.inr 156), some (.inl l5), none, none, none] []) : ∀ (κ : Nat), κ + 20 * n + 20 ≤ 20000 → ∀ (σ : Mem) (l5 : Int32), fL_case34 L xs r28 σ l5 = some () → V pT κ σ 1913 [some (.inr 1000), some (.inr 0), some (.inr 124), some (.inr 155), some (.inr 156), some (.inl l5), none, none, none] [] := by
  have C := rga_C A
  have L1954 := law_L1954 hl hI A ih28
  intro κ hκ σ l5 h
  refine rg_aload_n (C _) dL_law_1913 rfl ?_
  refine rg_aload_n (C _) dL_law_1914 rfl ?_
  refine bd_e h (fun v344 σ344 hf344 h => ?_)
  refine rg_callW (C _) gw_L_optima ml_L_260 (cL_optima_c hl hI hf344) rfl rfl (by exact Nat.le_of_ble_eq_true rfl) ⟨Nat.le_of_ble_eq_true rfl, Nat.le_of_ble_eq_true rfl, by omega⟩ dL_law_1915 ?_
  refine rg_istore (C pT) (by decide) dL_law_1918 ?_
  refine rg_aload_n (C _) dL_law_1920 rfl ?_
  refine bd_e h (fun v345 σ345 hf345 h => ?_)
  refine rg_callV (C _) g_X10_optima hc_10 o_124 ml_L_262 (mX10_optima hl hI hf345) rfl rfl (by exact Nat.le_of_ble_eq_true rfl) ⟨Nat.le_of_ble_eq_true rfl, Nat.le_of_ble_eq_true rfl, by omega⟩ dL_law_1921 ?_
  refine rg_istore (C pT) (by decide) dL_law_1924 ?_
  refine rg_aload_n (C _) dL_law_1926 rfl ?_
  refine bd_e h (fun v346 σ346 hf346 h => ?_)
  refine rg_callV (C _) g_X10_thrown hc_10 o_124 ml_L_146 (mX10_thrown hl hI hf346) rfl rfl (by exact Nat.le_of_ble_eq_true rfl) ⟨Nat.le_of_ble_eq_true rfl, Nat.le_of_ble_eq_true rfl, by omega⟩ dL_law_1927 ?_
  refine rg_iload (C _) dL_law_1930 rfl ?_
  refine rg_ic_eq (C _) (tgt := 1937) h (by decide) dL_law_1932 (fun hc h => ?_) (fun hc h => ?_)
  · refine rg_iload (C _) dL_law_1937 rfl ?_
    refine rg_if_ne (C _) (tgt := 1954) h (by decide) dL_law_1939 (fun hc h => ?_) (fun hc h => ?_)
    · refine rg_weak (C _) [some (.inr 1000), some (.inr 0), some (.inr 124), some (.inr 155), some (.inr 156), some (.inl l5), none, none, none] ⟨rfl, ⟨rfl, ⟨rfl, ⟨rfl, ⟨rfl, ⟨rfl, trivial⟩⟩⟩⟩⟩⟩ ?_
      exact L1954 _ (by omega) _ _ h
    · refine rg_aload_n (C _) dL_law_1942 rfl ?_
      refine rg_iconst (C _) ic_0 dL_law_1943 ?_
      refine rg_laload (C _) dL_law_1944 ?_
      refine rg_iload (C _) dL_law_1945 rfl ?_
      refine rg_i2l (C _) dL_law_1947 ?_
      refine rg_lcmpeq (C _) (tgt := 1954) h dL_law_1948 (by decide) dL_law_1949 (fun h => ?_) (fun h => ?_)
      · refine rg_weak (C _) [some (.inr 1000), some (.inr 0), some (.inr 124), some (.inr 155), some (.inr 156), some (.inl l5), none, none, none] ⟨rfl, ⟨rfl, ⟨rfl, ⟨rfl, ⟨rfl, ⟨rfl, trivial⟩⟩⟩⟩⟩⟩ ?_
        exact L1954 _ (by omega) _ _ h
      · exact no_e h
  · exact no_e h
set_option maxHeartbeats 4000000 in
set_option maxRecDepth 100000 in
theorem law_K35 {l : Launch} {D : va_G} {ad : Nat → Nat} {cy : Nat → ClassId} {b L : Nat} {xs : Nat → Int32} {V : (Array Slot → Prop) → Vt} (hl : l.stackTraces = false) (hI : Inj ad) (A : RgA l D ad cy RL cL_law 9 20 10862 20000 [] (FL ad b L xs) V) {n : Nat} {r28 : Mem → Int32 → Option Unit} (ih28 : ∀ (κ : Nat), κ + 20 * n ≤ 20000 → ∀ (σ : Mem) (l5 : Int32), r28 σ l5 = some () → V pT κ σ 28 [some (.inr 1000), some (.inr 0), some (.inr 124), some (.inr 155), some (.inr 156), some (.inl l5), none, none, none] []) : ∀ (κ : Nat), κ + 20 * n + 20 ≤ 20000 → ∀ (σ : Mem) (l5 : Int32), fL_case35 L xs r28 σ l5 = some () → V pT κ σ 1957 [some (.inr 1000), some (.inr 0), some (.inr 124), some (.inr 155), some (.inr 156), some (.inl l5), none, none, none] [] := by
  have C := rga_C A
  have L2010 := law_L2010 hl hI A ih28
  intro κ hκ σ l5 h
  refine rg_aload_n (C _) dL_law_1957 rfl ?_
  refine rg_aload_n (C _) dL_law_1958 rfl ?_
  refine rg_iload (C _) dL_law_1959 rfl ?_
  refine rg_iconst (C _) ic_1 dL_law_1961 ?_
  refine rg_iadd (C _) dL_law_1962 ?_
  obtain ⟨hi, h⟩ := ck_e h
  refine rgl_sld (C _) hi dL_law_1963 ?_
  refine rg_aload_n (C _) dL_law_1964 rfl ?_
  refine bd_e h (fun v347 σ347 hf347 h => ?_)
  refine rg_callW (C _) gw_L_optimalValue ml_L_263 (cL_optimalValue_c hl hI hf347) rfl rfl (by exact Nat.le_of_ble_eq_true rfl) ⟨Nat.le_of_ble_eq_true rfl, Nat.le_of_ble_eq_true rfl, by omega⟩ dL_law_1965 ?_
  refine rg_istore (C pT) (by decide) dL_law_1968 ?_
  refine rg_aload_n (C _) dL_law_1970 rfl ?_
  refine rg_aload_n (C _) dL_law_1971 rfl ?_
  refine rg_iload (C _) dL_law_1972 rfl ?_
  refine rg_iconst (C _) ic_1 dL_law_1974 ?_
  refine rg_iadd (C _) dL_law_1975 ?_
  obtain ⟨hi, h⟩ := ck_e h
  refine rgl_sld (C _) hi dL_law_1976 ?_
  refine bd_e h (fun v348 σ348 hf348 h => ?_)
  refine rg_callV (C _) g_X10_optimalValue hc_10 o_124 ml_L_265 (mX10_optimalValue hl hI hf348) rfl rfl (by exact Nat.le_of_ble_eq_true rfl) ⟨Nat.le_of_ble_eq_true rfl, Nat.le_of_ble_eq_true rfl, by omega⟩ dL_law_1977 ?_
  refine rg_istore (C pT) (by decide) dL_law_1980 ?_
  refine rg_aload_n (C _) dL_law_1982 rfl ?_
  refine bd_e h (fun v349 σ349 hf349 h => ?_)
  refine rg_callV (C _) g_X10_thrown hc_10 o_124 ml_L_146 (mX10_thrown hl hI hf349) rfl rfl (by exact Nat.le_of_ble_eq_true rfl) ⟨Nat.le_of_ble_eq_true rfl, Nat.le_of_ble_eq_true rfl, by omega⟩ dL_law_1983 ?_
  refine rg_iload (C _) dL_law_1986 rfl ?_
  refine rg_ic_eq (C _) (tgt := 1993) h (by decide) dL_law_1988 (fun hc h => ?_) (fun hc h => ?_)
  · refine rg_iload (C _) dL_law_1993 rfl ?_
    refine rg_if_ne (C _) (tgt := 2010) h (by decide) dL_law_1995 (fun hc h => ?_) (fun hc h => ?_)
    · refine rg_weak (C _) [some (.inr 1000), some (.inr 0), some (.inr 124), some (.inr 155), some (.inr 156), some (.inl l5), none, none, none] ⟨rfl, ⟨rfl, ⟨rfl, ⟨rfl, ⟨rfl, ⟨rfl, trivial⟩⟩⟩⟩⟩⟩ ?_
      exact L2010 _ (by omega) _ _ h
    · refine rg_aload_n (C _) dL_law_1998 rfl ?_
      refine rg_iconst (C _) ic_0 dL_law_1999 ?_
      refine rg_laload (C _) dL_law_2000 ?_
      refine rg_iload (C _) dL_law_2001 rfl ?_
      refine rg_i2l (C _) dL_law_2003 ?_
      refine rg_lcmpeq (C _) (tgt := 2010) h dL_law_2004 (by decide) dL_law_2005 (fun h => ?_) (fun h => ?_)
      · refine rg_weak (C _) [some (.inr 1000), some (.inr 0), some (.inr 124), some (.inr 155), some (.inr 156), some (.inl l5), none, none, none] ⟨rfl, ⟨rfl, ⟨rfl, ⟨rfl, ⟨rfl, ⟨rfl, trivial⟩⟩⟩⟩⟩⟩ ?_
        exact L2010 _ (by omega) _ _ h
      · exact no_e h
  · exact no_e h
set_option maxHeartbeats 4000000 in
set_option maxRecDepth 100000 in
theorem law_K36 {l : Launch} {D : va_G} {ad : Nat → Nat} {cy : Nat → ClassId} {b L : Nat} {xs : Nat → Int32} {V : (Array Slot → Prop) → Vt} (hl : l.stackTraces = false) (hI : Inj ad) (A : RgA l D ad cy RL cL_law 9 20 10862 20000 [] (FL ad b L xs) V) {n : Nat} {r28 : Mem → Int32 → Option Unit} (ih28 : ∀ (κ : Nat), κ + 20 * n ≤ 20000 → ∀ (σ : Mem) (l5 : Int32), r28 σ l5 = some () → V pT κ σ 28 [some (.inr 1000), some (.inr 0), some (.inr 124), some (.inr 155), some (.inr 156), some (.inl l5), none, none, none] []) : ∀ (κ : Nat), κ + 20 * n + 20 ≤ 20000 → ∀ (σ : Mem) (l5 : Int32), fL_case36 L xs r28 σ l5 = some () → V pT κ σ 2013 [some (.inr 1000), some (.inr 0), some (.inr 124), some (.inr 155), some (.inr 156), some (.inl l5), none, none, none] [] := by
  have C := rga_C A
  have L2054 := law_L2054 hl hI A ih28
  intro κ hκ σ l5 h
  refine rg_aload_n (C _) dL_law_2013 rfl ?_
  refine rg_aload_n (C _) dL_law_2014 rfl ?_
  refine bd_e h (fun v350 σ350 hf350 h => ?_)
  refine rg_callW (C _) gw_L_worst ml_L_266 (cL_worst_c hl hI hf350) rfl rfl (by exact Nat.le_of_ble_eq_true rfl) ⟨Nat.le_of_ble_eq_true rfl, Nat.le_of_ble_eq_true rfl, by omega⟩ dL_law_2015 ?_
  refine rg_istore (C pT) (by decide) dL_law_2018 ?_
  refine rg_aload_n (C _) dL_law_2020 rfl ?_
  refine bd_e h (fun v351 σ351 hf351 h => ?_)
  refine rg_callV (C _) g_X10_worst hc_10 o_124 ml_L_268 (mX10_worst hl hI hf351) rfl rfl (by exact Nat.le_of_ble_eq_true rfl) ⟨Nat.le_of_ble_eq_true rfl, Nat.le_of_ble_eq_true rfl, by omega⟩ dL_law_2021 ?_
  refine rg_istore (C pT) (by decide) dL_law_2024 ?_
  refine rg_aload_n (C _) dL_law_2026 rfl ?_
  refine bd_e h (fun v352 σ352 hf352 h => ?_)
  refine rg_callV (C _) g_X10_thrown hc_10 o_124 ml_L_146 (mX10_thrown hl hI hf352) rfl rfl (by exact Nat.le_of_ble_eq_true rfl) ⟨Nat.le_of_ble_eq_true rfl, Nat.le_of_ble_eq_true rfl, by omega⟩ dL_law_2027 ?_
  refine rg_iload (C _) dL_law_2030 rfl ?_
  refine rg_ic_eq (C _) (tgt := 2037) h (by decide) dL_law_2032 (fun hc h => ?_) (fun hc h => ?_)
  · refine rg_iload (C _) dL_law_2037 rfl ?_
    refine rg_if_ne (C _) (tgt := 2054) h (by decide) dL_law_2039 (fun hc h => ?_) (fun hc h => ?_)
    · refine rg_weak (C _) [some (.inr 1000), some (.inr 0), some (.inr 124), some (.inr 155), some (.inr 156), some (.inl l5), none, none, none] ⟨rfl, ⟨rfl, ⟨rfl, ⟨rfl, ⟨rfl, ⟨rfl, trivial⟩⟩⟩⟩⟩⟩ ?_
      exact L2054 _ (by omega) _ _ h
    · refine rg_aload_n (C _) dL_law_2042 rfl ?_
      refine rg_iconst (C _) ic_0 dL_law_2043 ?_
      refine rg_laload (C _) dL_law_2044 ?_
      refine rg_iload (C _) dL_law_2045 rfl ?_
      refine rg_i2l (C _) dL_law_2047 ?_
      refine rg_lcmpeq (C _) (tgt := 2054) h dL_law_2048 (by decide) dL_law_2049 (fun h => ?_) (fun h => ?_)
      · refine rg_weak (C _) [some (.inr 1000), some (.inr 0), some (.inr 124), some (.inr 155), some (.inr 156), some (.inl l5), none, none, none] ⟨rfl, ⟨rfl, ⟨rfl, ⟨rfl, ⟨rfl, ⟨rfl, trivial⟩⟩⟩⟩⟩⟩ ?_
        exact L2054 _ (by omega) _ _ h
      · exact no_e h
  · exact no_e h
set_option maxHeartbeats 4000000 in
set_option maxRecDepth 100000 in
theorem law_K37 {l : Launch} {D : va_G} {ad : Nat → Nat} {cy : Nat → ClassId} {b L : Nat} {xs : Nat → Int32} {V : (Array Slot → Prop) → Vt} (hl : l.stackTraces = false) (hI : Inj ad) (A : RgA l D ad cy RL cL_law 9 20 10862 20000 [] (FL ad b L xs) V) {n : Nat} {r28 : Mem → Int32 → Option Unit} (ih28 : ∀ (κ : Nat), κ + 20 * n ≤ 20000 → ∀ (σ : Mem) (l5 : Int32), r28 σ l5 = some () → V pT κ σ 28 [some (.inr 1000), some (.inr 0), some (.inr 124), some (.inr 155), some (.inr 156), some (.inl l5), none, none, none] []) : ∀ (κ : Nat), κ + 20 * n + 20 ≤ 20000 → ∀ (σ : Mem) (l5 : Int32), fL_case37 L xs r28 σ l5 = some () → V pT κ σ 2057 [some (.inr 1000), some (.inr 0), some (.inr 124), some (.inr 155), some (.inr 156), some (.inl l5), none, none, none] [] := by
  have C := rga_C A
  have L2098 := law_L2098 hl hI A ih28
  intro κ hκ σ l5 h
  refine rg_aload_n (C _) dL_law_2057 rfl ?_
  refine rg_aload_n (C _) dL_law_2058 rfl ?_
  refine bd_e h (fun v353 σ353 hf353 h => ?_)
  refine rg_callW (C _) gw_L_unavoidable ml_L_269 (cL_unavoidable_c hl hI hf353) rfl rfl (by exact Nat.le_of_ble_eq_true rfl) ⟨Nat.le_of_ble_eq_true rfl, Nat.le_of_ble_eq_true rfl, by omega⟩ dL_law_2059 ?_
  refine rg_istore (C pT) (by decide) dL_law_2062 ?_
  refine rg_aload_n (C _) dL_law_2064 rfl ?_
  refine bd_e h (fun v354 σ354 hf354 h => ?_)
  refine rg_callV (C _) g_X10_unavoidable hc_10 o_124 ml_L_271 (mX10_unavoidable hl hI hf354) rfl rfl (by exact Nat.le_of_ble_eq_true rfl) ⟨Nat.le_of_ble_eq_true rfl, Nat.le_of_ble_eq_true rfl, by omega⟩ dL_law_2065 ?_
  refine rg_istore (C pT) (by decide) dL_law_2068 ?_
  refine rg_aload_n (C _) dL_law_2070 rfl ?_
  refine bd_e h (fun v355 σ355 hf355 h => ?_)
  refine rg_callV (C _) g_X10_thrown hc_10 o_124 ml_L_146 (mX10_thrown hl hI hf355) rfl rfl (by exact Nat.le_of_ble_eq_true rfl) ⟨Nat.le_of_ble_eq_true rfl, Nat.le_of_ble_eq_true rfl, by omega⟩ dL_law_2071 ?_
  refine rg_iload (C _) dL_law_2074 rfl ?_
  refine rg_ic_eq (C _) (tgt := 2081) h (by decide) dL_law_2076 (fun hc h => ?_) (fun hc h => ?_)
  · refine rg_iload (C _) dL_law_2081 rfl ?_
    refine rg_if_ne (C _) (tgt := 2098) h (by decide) dL_law_2083 (fun hc h => ?_) (fun hc h => ?_)
    · refine rg_weak (C _) [some (.inr 1000), some (.inr 0), some (.inr 124), some (.inr 155), some (.inr 156), some (.inl l5), none, none, none] ⟨rfl, ⟨rfl, ⟨rfl, ⟨rfl, ⟨rfl, ⟨rfl, trivial⟩⟩⟩⟩⟩⟩ ?_
      exact L2098 _ (by omega) _ _ h
    · refine rg_aload_n (C _) dL_law_2086 rfl ?_
      refine rg_iconst (C _) ic_0 dL_law_2087 ?_
      refine rg_laload (C _) dL_law_2088 ?_
      refine rg_iload (C _) dL_law_2089 rfl ?_
      refine rg_i2l (C _) dL_law_2091 ?_
      refine rg_lcmpeq (C _) (tgt := 2098) h dL_law_2092 (by decide) dL_law_2093 (fun h => ?_) (fun h => ?_)
      · refine rg_weak (C _) [some (.inr 1000), some (.inr 0), some (.inr 124), some (.inr 155), some (.inr 156), some (.inl l5), none, none, none] ⟨rfl, ⟨rfl, ⟨rfl, ⟨rfl, ⟨rfl, ⟨rfl, trivial⟩⟩⟩⟩⟩⟩ ?_
        exact L2098 _ (by omega) _ _ h
      · exact no_e h
  · exact no_e h
set_option maxHeartbeats 4000000 in
set_option maxRecDepth 100000 in
theorem law_K38 {l : Launch} {D : va_G} {ad : Nat → Nat} {cy : Nat → ClassId} {b L : Nat} {xs : Nat → Int32} {V : (Array Slot → Prop) → Vt} (hl : l.stackTraces = false) (hI : Inj ad) (A : RgA l D ad cy RL cL_law 9 20 10862 20000 [] (FL ad b L xs) V) {n : Nat} {r28 : Mem → Int32 → Option Unit} (ih28 : ∀ (κ : Nat), κ + 20 * n ≤ 20000 → ∀ (σ : Mem) (l5 : Int32), r28 σ l5 = some () → V pT κ σ 28 [some (.inr 1000), some (.inr 0), some (.inr 124), some (.inr 155), some (.inr 156), some (.inl l5), none, none, none] []) : ∀ (κ : Nat), κ + 20 * n + 20 ≤ 20000 → ∀ (σ : Mem) (l5 : Int32), fL_case38 L xs r28 σ l5 = some () → V pT κ σ 2101 [some (.inr 1000), some (.inr 0), some (.inr 124), some (.inr 155), some (.inr 156), some (.inl l5), none, none, none] [] := by
  have C := rga_C A
  have L2156 := law_L2156 hl hI A ih28
  intro κ hκ σ l5 h
  refine rg_aload_n (C _) dL_law_2101 rfl ?_
  refine rg_aload_n (C _) dL_law_2102 rfl ?_
  refine rg_iload (C _) dL_law_2103 rfl ?_
  refine rg_iconst (C _) ic_1 dL_law_2105 ?_
  refine rg_iadd (C _) dL_law_2106 ?_
  obtain ⟨hi, h⟩ := ck_e h
  refine rgl_sld (C _) hi dL_law_2107 ?_
  refine rg_i2c (C _) dL_law_2108 ?_
  refine rg_aload_n (C _) dL_law_2109 rfl ?_
  refine bd_e h (fun v356 σ356 hf356 h => ?_)
  refine rg_callW (C _) gw_L_append ml_L_272 (cL_append_c hl hI hf356) rfl rfl (by exact Nat.le_of_ble_eq_true rfl) ⟨Nat.le_of_ble_eq_true rfl, Nat.le_of_ble_eq_true rfl, by omega⟩ dL_law_2110 ?_
  refine rg_istore (C pT) (by decide) dL_law_2113 ?_
  refine rg_aload_n (C _) dL_law_2115 rfl ?_
  refine rg_aload_n (C _) dL_law_2116 rfl ?_
  refine rg_iload (C _) dL_law_2117 rfl ?_
  refine rg_iconst (C _) ic_1 dL_law_2119 ?_
  refine rg_iadd (C _) dL_law_2120 ?_
  obtain ⟨hi, h⟩ := ck_e h
  refine rgl_sld (C _) hi dL_law_2121 ?_
  refine rg_i2c (C _) dL_law_2122 ?_
  refine bd_e h (fun v357 σ357 hf357 h => ?_)
  refine rg_callV (C _) g_X10_append hc_10 o_124 ml_L_275 (mX10_append hl hI hf357) rfl rfl (by exact Nat.le_of_ble_eq_true rfl) ⟨Nat.le_of_ble_eq_true rfl, Nat.le_of_ble_eq_true rfl, by omega⟩ dL_law_2123 ?_
  refine rg_istore (C pT) (by decide) dL_law_2126 ?_
  refine rg_aload_n (C _) dL_law_2128 rfl ?_
  refine bd_e h (fun v358 σ358 hf358 h => ?_)
  refine rg_callV (C _) g_X10_thrown hc_10 o_124 ml_L_146 (mX10_thrown hl hI hf358) rfl rfl (by exact Nat.le_of_ble_eq_true rfl) ⟨Nat.le_of_ble_eq_true rfl, Nat.le_of_ble_eq_true rfl, by omega⟩ dL_law_2129 ?_
  refine rg_iload (C _) dL_law_2132 rfl ?_
  refine rg_ic_eq (C _) (tgt := 2139) h (by decide) dL_law_2134 (fun hc h => ?_) (fun hc h => ?_)
  · refine rg_iload (C _) dL_law_2139 rfl ?_
    refine rg_if_ne (C _) (tgt := 2156) h (by decide) dL_law_2141 (fun hc h => ?_) (fun hc h => ?_)
    · refine rg_weak (C _) [some (.inr 1000), some (.inr 0), some (.inr 124), some (.inr 155), some (.inr 156), some (.inl l5), none, none, none] ⟨rfl, ⟨rfl, ⟨rfl, ⟨rfl, ⟨rfl, ⟨rfl, trivial⟩⟩⟩⟩⟩⟩ ?_
      exact L2156 _ (by omega) _ _ h
    · refine rg_aload_n (C _) dL_law_2144 rfl ?_
      refine rg_iconst (C _) ic_0 dL_law_2145 ?_
      refine rg_laload (C _) dL_law_2146 ?_
      refine rg_iload (C _) dL_law_2147 rfl ?_
      refine rg_i2l (C _) dL_law_2149 ?_
      refine rg_lcmpeq (C _) (tgt := 2156) h dL_law_2150 (by decide) dL_law_2151 (fun h => ?_) (fun h => ?_)
      · refine rg_weak (C _) [some (.inr 1000), some (.inr 0), some (.inr 124), some (.inr 155), some (.inr 156), some (.inl l5), none, none, none] ⟨rfl, ⟨rfl, ⟨rfl, ⟨rfl, ⟨rfl, ⟨rfl, trivial⟩⟩⟩⟩⟩⟩ ?_
        exact L2156 _ (by omega) _ _ h
      · exact no_e h
  · exact no_e h
set_option maxHeartbeats 4000000 in
set_option maxRecDepth 100000 in
theorem law_K39 {l : Launch} {D : va_G} {ad : Nat → Nat} {cy : Nat → ClassId} {b L : Nat} {xs : Nat → Int32} {V : (Array Slot → Prop) → Vt} (hl : l.stackTraces = false) (hI : Inj ad) (A : RgA l D ad cy RL cL_law 9 20 10862 20000 [] (FL ad b L xs) V) {n : Nat} {r28 : Mem → Int32 → Option Unit} (ih28 : ∀ (κ : Nat), κ + 20 * n ≤ 20000 → ∀ (σ : Mem) (l5 : Int32), r28 σ l5 = some () → V pT κ σ 28 [some (.inr 1000), some (.inr 0), some (.inr 124), some (.inr 155), some (.inr 156), some (.inl l5), none, none, none] []) : ∀ (κ : Nat), κ + 20 * n + 20 ≤ 20000 → ∀ (σ : Mem) (l5 : Int32), fL_case39 L xs r28 σ l5 = some () → V pT κ σ 2159 [some (.inr 1000), some (.inr 0), some (.inr 124), some (.inr 155), some (.inr 156), some (.inl l5), none, none, none] [] := by
  have C := rga_C A
  have L2200 := law_L2200 hl hI A ih28
  intro κ hκ σ l5 h
  refine rg_aload_n (C _) dL_law_2159 rfl ?_
  refine rg_aload_n (C _) dL_law_2160 rfl ?_
  refine bd_e h (fun v359 σ359 hf359 h => ?_)
  refine rg_callW (C _) gw_L_read ml_L_276 (cL_read_c hl hI hf359) rfl rfl (by exact Nat.le_of_ble_eq_true rfl) ⟨Nat.le_of_ble_eq_true rfl, Nat.le_of_ble_eq_true rfl, by omega⟩ dL_law_2161 ?_
  refine rg_istore (C pT) (by decide) dL_law_2164 ?_
  refine rg_aload_n (C _) dL_law_2166 rfl ?_
  refine bd_e h (fun v360 σ360 hf360 h => ?_)
  refine rg_callV (C _) g_X10_read hc_10 o_124 ml_L_278 (mX10_read hl hI hf360) rfl rfl (by exact Nat.le_of_ble_eq_true rfl) ⟨Nat.le_of_ble_eq_true rfl, Nat.le_of_ble_eq_true rfl, by omega⟩ dL_law_2167 ?_
  refine rg_istore (C pT) (by decide) dL_law_2170 ?_
  refine rg_aload_n (C _) dL_law_2172 rfl ?_
  refine bd_e h (fun v361 σ361 hf361 h => ?_)
  refine rg_callV (C _) g_X10_thrown hc_10 o_124 ml_L_146 (mX10_thrown hl hI hf361) rfl rfl (by exact Nat.le_of_ble_eq_true rfl) ⟨Nat.le_of_ble_eq_true rfl, Nat.le_of_ble_eq_true rfl, by omega⟩ dL_law_2173 ?_
  refine rg_iload (C _) dL_law_2176 rfl ?_
  refine rg_ic_eq (C _) (tgt := 2183) h (by decide) dL_law_2178 (fun hc h => ?_) (fun hc h => ?_)
  · refine rg_iload (C _) dL_law_2183 rfl ?_
    refine rg_if_ne (C _) (tgt := 2200) h (by decide) dL_law_2185 (fun hc h => ?_) (fun hc h => ?_)
    · refine rg_weak (C _) [some (.inr 1000), some (.inr 0), some (.inr 124), some (.inr 155), some (.inr 156), some (.inl l5), none, none, none] ⟨rfl, ⟨rfl, ⟨rfl, ⟨rfl, ⟨rfl, ⟨rfl, trivial⟩⟩⟩⟩⟩⟩ ?_
      exact L2200 _ (by omega) _ _ h
    · refine rg_aload_n (C _) dL_law_2188 rfl ?_
      refine rg_iconst (C _) ic_0 dL_law_2189 ?_
      refine rg_laload (C _) dL_law_2190 ?_
      refine rg_iload (C _) dL_law_2191 rfl ?_
      refine rg_i2l (C _) dL_law_2193 ?_
      refine rg_lcmpeq (C _) (tgt := 2200) h dL_law_2194 (by decide) dL_law_2195 (fun h => ?_) (fun h => ?_)
      · refine rg_weak (C _) [some (.inr 1000), some (.inr 0), some (.inr 124), some (.inr 155), some (.inr 156), some (.inl l5), none, none, none] ⟨rfl, ⟨rfl, ⟨rfl, ⟨rfl, ⟨rfl, ⟨rfl, trivial⟩⟩⟩⟩⟩⟩ ?_
        exact L2200 _ (by omega) _ _ h
      · exact no_e h
  · exact no_e h
set_option maxHeartbeats 4000000 in
set_option maxRecDepth 100000 in
theorem law_K40 {l : Launch} {D : va_G} {ad : Nat → Nat} {cy : Nat → ClassId} {b L : Nat} {xs : Nat → Int32} {V : (Array Slot → Prop) → Vt} (hl : l.stackTraces = false) (hI : Inj ad) (A : RgA l D ad cy RL cL_law 9 20 10862 20000 [] (FL ad b L xs) V) {n : Nat} {r28 : Mem → Int32 → Option Unit} (ih28 : ∀ (κ : Nat), κ + 20 * n ≤ 20000 → ∀ (σ : Mem) (l5 : Int32), r28 σ l5 = some () → V pT κ σ 28 [some (.inr 1000), some (.inr 0), some (.inr 124), some (.inr 155), some (.inr 156), some (.inl l5), none, none, none] []) : ∀ (κ : Nat), κ + 20 * n + 20 ≤ 20000 → ∀ (σ : Mem) (l5 : Int32), fL_case40 L xs r28 σ l5 = some () → V pT κ σ 2203 [some (.inr 1000), some (.inr 0), some (.inr 124), some (.inr 155), some (.inr 156), some (.inl l5), none, none, none] [] := by
  have C := rga_C A
  have L2244 := law_L2244 hl hI A ih28
  intro κ hκ σ l5 h
  refine rg_aload_n (C _) dL_law_2203 rfl ?_
  refine rg_aload_n (C _) dL_law_2204 rfl ?_
  refine bd_e h (fun v362 σ362 hf362 h => ?_)
  refine rg_callW (C _) gw_L_errorPosition ml_L_279 (cL_errorPosition_c hl hI hf362) rfl rfl (by exact Nat.le_of_ble_eq_true rfl) ⟨Nat.le_of_ble_eq_true rfl, Nat.le_of_ble_eq_true rfl, by omega⟩ dL_law_2205 ?_
  refine rg_istore (C pT) (by decide) dL_law_2208 ?_
  refine rg_aload_n (C _) dL_law_2210 rfl ?_
  refine bd_e h (fun v363 σ363 hf363 h => ?_)
  refine rg_callV (C _) g_X10_errorPosition hc_10 o_124 ml_L_281 (mX10_errorPosition hl hI hf363) rfl rfl (by exact Nat.le_of_ble_eq_true rfl) ⟨Nat.le_of_ble_eq_true rfl, Nat.le_of_ble_eq_true rfl, by omega⟩ dL_law_2211 ?_
  refine rg_istore (C pT) (by decide) dL_law_2214 ?_
  refine rg_aload_n (C _) dL_law_2216 rfl ?_
  refine bd_e h (fun v364 σ364 hf364 h => ?_)
  refine rg_callV (C _) g_X10_thrown hc_10 o_124 ml_L_146 (mX10_thrown hl hI hf364) rfl rfl (by exact Nat.le_of_ble_eq_true rfl) ⟨Nat.le_of_ble_eq_true rfl, Nat.le_of_ble_eq_true rfl, by omega⟩ dL_law_2217 ?_
  refine rg_iload (C _) dL_law_2220 rfl ?_
  refine rg_ic_eq (C _) (tgt := 2227) h (by decide) dL_law_2222 (fun hc h => ?_) (fun hc h => ?_)
  · refine rg_iload (C _) dL_law_2227 rfl ?_
    refine rg_if_ne (C _) (tgt := 2244) h (by decide) dL_law_2229 (fun hc h => ?_) (fun hc h => ?_)
    · refine rg_weak (C _) [some (.inr 1000), some (.inr 0), some (.inr 124), some (.inr 155), some (.inr 156), some (.inl l5), none, none, none] ⟨rfl, ⟨rfl, ⟨rfl, ⟨rfl, ⟨rfl, ⟨rfl, trivial⟩⟩⟩⟩⟩⟩ ?_
      exact L2244 _ (by omega) _ _ h
    · refine rg_aload_n (C _) dL_law_2232 rfl ?_
      refine rg_iconst (C _) ic_0 dL_law_2233 ?_
      refine rg_laload (C _) dL_law_2234 ?_
      refine rg_iload (C _) dL_law_2235 rfl ?_
      refine rg_i2l (C _) dL_law_2237 ?_
      refine rg_lcmpeq (C _) (tgt := 2244) h dL_law_2238 (by decide) dL_law_2239 (fun h => ?_) (fun h => ?_)
      · refine rg_weak (C _) [some (.inr 1000), some (.inr 0), some (.inr 124), some (.inr 155), some (.inr 156), some (.inl l5), none, none, none] ⟨rfl, ⟨rfl, ⟨rfl, ⟨rfl, ⟨rfl, ⟨rfl, trivial⟩⟩⟩⟩⟩⟩ ?_
        exact L2244 _ (by omega) _ _ h
      · exact no_e h
  · exact no_e h
set_option maxHeartbeats 4000000 in
set_option maxRecDepth 100000 in
theorem law_K41 {l : Launch} {D : va_G} {ad : Nat → Nat} {cy : Nat → ClassId} {b L : Nat} {xs : Nat → Int32} {V : (Array Slot → Prop) → Vt} (hl : l.stackTraces = false) (hI : Inj ad) (A : RgA l D ad cy RL cL_law 9 20 10862 20000 [] (FL ad b L xs) V) {n : Nat} {r28 : Mem → Int32 → Option Unit} (ih28 : ∀ (κ : Nat), κ + 20 * n ≤ 20000 → ∀ (σ : Mem) (l5 : Int32), r28 σ l5 = some () → V pT κ σ 28 [some (.inr 1000), some (.inr 0), some (.inr 124), some (.inr 155), some (.inr 156), some (.inl l5), none, none, none] []) : ∀ (κ : Nat), κ + 20 * n + 20 ≤ 20000 → ∀ (σ : Mem) (l5 : Int32), fL_case41 L xs r28 σ l5 = some () → V pT κ σ 2247 [some (.inr 1000), some (.inr 0), some (.inr 124), some (.inr 155), some (.inr 156), some (.inl l5), none, none, none] [] := by
  have C := rga_C A
  have L2312 := law_L2312 hl hI A ih28
  intro κ hκ σ l5 h
  refine rg_aload_n (C _) dL_law_2247 rfl ?_
  refine rg_aload_n (C _) dL_law_2248 rfl ?_
  refine rg_iload (C _) dL_law_2249 rfl ?_
  refine rg_iconst (C _) ic_1 dL_law_2251 ?_
  refine rg_iadd (C _) dL_law_2252 ?_
  obtain ⟨hi, h⟩ := ck_e h
  refine rgl_sld (C _) hi dL_law_2253 ?_
  refine rg_aload_n (C _) dL_law_2254 rfl ?_
  refine rg_iload (C _) dL_law_2255 rfl ?_
  refine rg_iconst (C _) ic_2 dL_law_2257 ?_
  refine rg_iadd (C _) dL_law_2258 ?_
  obtain ⟨hi, h⟩ := ck_e h
  refine rgl_sld (C _) hi dL_law_2259 ?_
  refine rg_aload_n (C _) dL_law_2260 rfl ?_
  refine bd_e h (fun v365 σ365 hf365 h => ?_)
  refine rg_callW (C _) gw_L_describe ml_L_282 (cL_describe_c hl hI hf365) rfl rfl (by exact Nat.le_of_ble_eq_true rfl) ⟨Nat.le_of_ble_eq_true rfl, Nat.le_of_ble_eq_true rfl, by omega⟩ dL_law_2261 ?_
  refine rg_istore (C pT) (by decide) dL_law_2264 ?_
  refine rg_aload_n (C _) dL_law_2266 rfl ?_
  refine rg_aload_n (C _) dL_law_2267 rfl ?_
  refine rg_iload (C _) dL_law_2268 rfl ?_
  refine rg_iconst (C _) ic_1 dL_law_2270 ?_
  refine rg_iadd (C _) dL_law_2271 ?_
  obtain ⟨hi, h⟩ := ck_e h
  refine rgl_sld (C _) hi dL_law_2272 ?_
  refine rg_aload_n (C _) dL_law_2273 rfl ?_
  refine rg_iload (C _) dL_law_2274 rfl ?_
  refine rg_iconst (C _) ic_2 dL_law_2276 ?_
  refine rg_iadd (C _) dL_law_2277 ?_
  obtain ⟨hi, h⟩ := ck_e h
  refine rgl_sld (C _) hi dL_law_2278 ?_
  refine bd_e h (fun v366 σ366 hf366 h => ?_)
  refine rg_callV (C _) g_X10_describe hc_10 o_124 ml_L_284 (mX10_describe hl hI hf366) rfl rfl (by exact Nat.le_of_ble_eq_true rfl) ⟨Nat.le_of_ble_eq_true rfl, Nat.le_of_ble_eq_true rfl, by omega⟩ dL_law_2279 ?_
  refine rg_istore (C pT) (by decide) dL_law_2282 ?_
  refine rg_aload_n (C _) dL_law_2284 rfl ?_
  refine bd_e h (fun v367 σ367 hf367 h => ?_)
  refine rg_callV (C _) g_X10_thrown hc_10 o_124 ml_L_146 (mX10_thrown hl hI hf367) rfl rfl (by exact Nat.le_of_ble_eq_true rfl) ⟨Nat.le_of_ble_eq_true rfl, Nat.le_of_ble_eq_true rfl, by omega⟩ dL_law_2285 ?_
  refine rg_iload (C _) dL_law_2288 rfl ?_
  refine rg_ic_eq (C _) (tgt := 2295) h (by decide) dL_law_2290 (fun hc h => ?_) (fun hc h => ?_)
  · refine rg_iload (C _) dL_law_2295 rfl ?_
    refine rg_if_ne (C _) (tgt := 2312) h (by decide) dL_law_2297 (fun hc h => ?_) (fun hc h => ?_)
    · refine rg_weak (C _) [some (.inr 1000), some (.inr 0), some (.inr 124), some (.inr 155), some (.inr 156), some (.inl l5), none, none, none] ⟨rfl, ⟨rfl, ⟨rfl, ⟨rfl, ⟨rfl, ⟨rfl, trivial⟩⟩⟩⟩⟩⟩ ?_
      exact L2312 _ (by omega) _ _ h
    · refine rg_aload_n (C _) dL_law_2300 rfl ?_
      refine rg_iconst (C _) ic_0 dL_law_2301 ?_
      refine rg_laload (C _) dL_law_2302 ?_
      refine rg_iload (C _) dL_law_2303 rfl ?_
      refine rg_i2l (C _) dL_law_2305 ?_
      refine rg_lcmpeq (C _) (tgt := 2312) h dL_law_2306 (by decide) dL_law_2307 (fun h => ?_) (fun h => ?_)
      · refine rg_weak (C _) [some (.inr 1000), some (.inr 0), some (.inr 124), some (.inr 155), some (.inr 156), some (.inl l5), none, none, none] ⟨rfl, ⟨rfl, ⟨rfl, ⟨rfl, ⟨rfl, ⟨rfl, trivial⟩⟩⟩⟩⟩⟩ ?_
        exact L2312 _ (by omega) _ _ h
      · exact no_e h
  · exact no_e h
set_option maxHeartbeats 4000000 in
set_option maxRecDepth 100000 in
theorem law_K42 {l : Launch} {D : va_G} {ad : Nat → Nat} {cy : Nat → ClassId} {b L : Nat} {xs : Nat → Int32} {V : (Array Slot → Prop) → Vt} (hl : l.stackTraces = false) (hI : Inj ad) (A : RgA l D ad cy RL cL_law 9 20 10862 20000 [] (FL ad b L xs) V) {n : Nat} {r28 : Mem → Int32 → Option Unit} (ih28 : ∀ (κ : Nat), κ + 20 * n ≤ 20000 → ∀ (σ : Mem) (l5 : Int32), r28 σ l5 = some () → V pT κ σ 28 [some (.inr 1000), some (.inr 0), some (.inr 124), some (.inr 155), some (.inr 156), some (.inl l5), none, none, none] []) : ∀ (κ : Nat), κ + 20 * n + 20 ≤ 20000 → ∀ (σ : Mem) (l5 : Int32), fL_case42 L xs r28 σ l5 = some () → V pT κ σ 2315 [some (.inr 1000), some (.inr 0), some (.inr 124), some (.inr 155), some (.inr 156), some (.inl l5), none, none, none] [] := by
  have C := rga_C A
  have L2356 := law_L2356 hl hI A ih28
  intro κ hκ σ l5 h
  refine rg_aload_n (C _) dL_law_2315 rfl ?_
  refine rg_aload_n (C _) dL_law_2316 rfl ?_
  refine bd_e h (fun v368 σ368 hf368 h => ?_)
  refine rg_callW (C _) gw_L_undo ml_L_285 (cL_undo_c hl hI hf368) rfl rfl (by exact Nat.le_of_ble_eq_true rfl) ⟨Nat.le_of_ble_eq_true rfl, Nat.le_of_ble_eq_true rfl, by omega⟩ dL_law_2317 ?_
  refine rg_istore (C pT) (by decide) dL_law_2320 ?_
  refine rg_aload_n (C _) dL_law_2322 rfl ?_
  refine bd_e h (fun v369 σ369 hf369 h => ?_)
  refine rg_callV (C _) g_X10_undo hc_10 o_124 ml_L_287 (mX10_undo hl hI hf369) rfl rfl (by exact Nat.le_of_ble_eq_true rfl) ⟨Nat.le_of_ble_eq_true rfl, Nat.le_of_ble_eq_true rfl, by omega⟩ dL_law_2323 ?_
  refine rg_istore (C pT) (by decide) dL_law_2326 ?_
  refine rg_aload_n (C _) dL_law_2328 rfl ?_
  refine bd_e h (fun v370 σ370 hf370 h => ?_)
  refine rg_callV (C _) g_X10_thrown hc_10 o_124 ml_L_146 (mX10_thrown hl hI hf370) rfl rfl (by exact Nat.le_of_ble_eq_true rfl) ⟨Nat.le_of_ble_eq_true rfl, Nat.le_of_ble_eq_true rfl, by omega⟩ dL_law_2329 ?_
  refine rg_iload (C _) dL_law_2332 rfl ?_
  refine rg_ic_eq (C _) (tgt := 2339) h (by decide) dL_law_2334 (fun hc h => ?_) (fun hc h => ?_)
  · refine rg_iload (C _) dL_law_2339 rfl ?_
    refine rg_if_ne (C _) (tgt := 2356) h (by decide) dL_law_2341 (fun hc h => ?_) (fun hc h => ?_)
    · refine rg_weak (C _) [some (.inr 1000), some (.inr 0), some (.inr 124), some (.inr 155), some (.inr 156), some (.inl l5), none, none, none] ⟨rfl, ⟨rfl, ⟨rfl, ⟨rfl, ⟨rfl, ⟨rfl, trivial⟩⟩⟩⟩⟩⟩ ?_
      exact L2356 _ (by omega) _ _ h
    · refine rg_aload_n (C _) dL_law_2344 rfl ?_
      refine rg_iconst (C _) ic_0 dL_law_2345 ?_
      refine rg_laload (C _) dL_law_2346 ?_
      refine rg_iload (C _) dL_law_2347 rfl ?_
      refine rg_i2l (C _) dL_law_2349 ?_
      refine rg_lcmpeq (C _) (tgt := 2356) h dL_law_2350 (by decide) dL_law_2351 (fun h => ?_) (fun h => ?_)
      · refine rg_weak (C _) [some (.inr 1000), some (.inr 0), some (.inr 124), some (.inr 155), some (.inr 156), some (.inl l5), none, none, none] ⟨rfl, ⟨rfl, ⟨rfl, ⟨rfl, ⟨rfl, ⟨rfl, trivial⟩⟩⟩⟩⟩⟩ ?_
        exact L2356 _ (by omega) _ _ h
      · exact no_e h
  · exact no_e h
set_option maxHeartbeats 4000000 in
set_option maxRecDepth 100000 in
theorem law_K43 {l : Launch} {D : va_G} {ad : Nat → Nat} {cy : Nat → ClassId} {b L : Nat} {xs : Nat → Int32} {V : (Array Slot → Prop) → Vt} (hl : l.stackTraces = false) (hI : Inj ad) (A : RgA l D ad cy RL cL_law 9 20 10862 20000 [] (FL ad b L xs) V) {n : Nat} {r28 : Mem → Int32 → Option Unit} (ih28 : ∀ (κ : Nat), κ + 20 * n ≤ 20000 → ∀ (σ : Mem) (l5 : Int32), r28 σ l5 = some () → V pT κ σ 28 [some (.inr 1000), some (.inr 0), some (.inr 124), some (.inr 155), some (.inr 156), some (.inl l5), none, none, none] []) : ∀ (κ : Nat), κ + 20 * n + 20 ≤ 20000 → ∀ (σ : Mem) (l5 : Int32), fL_case43 L xs r28 σ l5 = some () → V pT κ σ 2359 [some (.inr 1000), some (.inr 0), some (.inr 124), some (.inr 155), some (.inr 156), some (.inl l5), none, none, none] [] := by
  have C := rga_C A
  have L2416 := law_L2416 hl hI A ih28
  intro κ hκ σ l5 h
  refine rg_aload_n (C _) dL_law_2359 rfl ?_
  refine bd_e h (fun v371 σ371 hf371 h => ?_)
  refine rg_callV (C _) g_X9_save hc_9 o_0 ml_L_288 (mX9_save hl hI hf371) rfl rfl (by exact Nat.le_of_ble_eq_true rfl) ⟨Nat.le_of_ble_eq_true rfl, Nat.le_of_ble_eq_true rfl, by omega⟩ dL_law_2360 ?_
  refine rg_aload_n (C _) dL_law_2363 rfl ?_
  refine bd_e h (fun v372 σ372 hf372 h => ?_)
  refine rg_callV (C _) g_X10_save hc_10 o_124 ml_L_291 (mX10_save hl hI hf372) rfl rfl (by exact Nat.le_of_ble_eq_true rfl) ⟨Nat.le_of_ble_eq_true rfl, Nat.le_of_ble_eq_true rfl, by omega⟩ dL_law_2364 ?_
  refine rg_ic_eq (C _) (tgt := 2416) h (by decide) dL_law_2367 (fun hc h => ?_) (fun hc h => ?_)
  · exact L2416 _ (by omega) _ _ h
  · exact no_e h
set_option maxHeartbeats 4000000 in
set_option maxRecDepth 100000 in
theorem law_K44 {l : Launch} {D : va_G} {ad : Nat → Nat} {cy : Nat → ClassId} {b L : Nat} {xs : Nat → Int32} {V : (Array Slot → Prop) → Vt} (hl : l.stackTraces = false) (hI : Inj ad) (A : RgA l D ad cy RL cL_law 9 20 10862 20000 [] (FL ad b L xs) V) {n : Nat} {r28 : Mem → Int32 → Option Unit} (ih28 : ∀ (κ : Nat), κ + 20 * n ≤ 20000 → ∀ (σ : Mem) (l5 : Int32), r28 σ l5 = some () → V pT κ σ 28 [some (.inr 1000), some (.inr 0), some (.inr 124), some (.inr 155), some (.inr 156), some (.inl l5), none, none, none] []) : ∀ (κ : Nat), κ + 20 * n + 20 ≤ 20000 → ∀ (σ : Mem) (l5 : Int32), fL_case44 L xs r28 σ l5 = some () → V pT κ σ 2372 [some (.inr 1000), some (.inr 0), some (.inr 124), some (.inr 155), some (.inr 156), some (.inl l5), none, none, none] [] := by
  have C := rga_C A
  have L2413 := law_L2413 hl hI A ih28
  intro κ hκ σ l5 h
  refine rg_aload_n (C _) dL_law_2372 rfl ?_
  refine rg_aload_n (C _) dL_law_2373 rfl ?_
  refine bd_e h (fun v373 σ373 hf373 h => ?_)
  refine rg_callW (C _) gw_L_restore ml_L_292 (cL_restore_c hl hI hf373) rfl rfl (by exact Nat.le_of_ble_eq_true rfl) ⟨Nat.le_of_ble_eq_true rfl, Nat.le_of_ble_eq_true rfl, by omega⟩ dL_law_2374 ?_
  refine rg_istore (C pT) (by decide) dL_law_2377 ?_
  refine rg_aload_n (C _) dL_law_2379 rfl ?_
  refine bd_e h (fun v374 σ374 hf374 h => ?_)
  refine rg_callV (C _) g_X10_restore hc_10 o_124 ml_L_294 (mX10_restore hl hI hf374) rfl rfl (by exact Nat.le_of_ble_eq_true rfl) ⟨Nat.le_of_ble_eq_true rfl, Nat.le_of_ble_eq_true rfl, by omega⟩ dL_law_2380 ?_
  refine rg_istore (C pT) (by decide) dL_law_2383 ?_
  refine rg_aload_n (C _) dL_law_2385 rfl ?_
  refine bd_e h (fun v375 σ375 hf375 h => ?_)
  refine rg_callV (C _) g_X10_thrown hc_10 o_124 ml_L_146 (mX10_thrown hl hI hf375) rfl rfl (by exact Nat.le_of_ble_eq_true rfl) ⟨Nat.le_of_ble_eq_true rfl, Nat.le_of_ble_eq_true rfl, by omega⟩ dL_law_2386 ?_
  refine rg_iload (C _) dL_law_2389 rfl ?_
  refine rg_ic_eq (C _) (tgt := 2396) h (by decide) dL_law_2391 (fun hc h => ?_) (fun hc h => ?_)
  · refine rg_iload (C _) dL_law_2396 rfl ?_
    refine rg_if_ne (C _) (tgt := 2413) h (by decide) dL_law_2398 (fun hc h => ?_) (fun hc h => ?_)
    · refine rg_weak (C _) [some (.inr 1000), some (.inr 0), some (.inr 124), some (.inr 155), some (.inr 156), some (.inl l5), none, none, none] ⟨rfl, ⟨rfl, ⟨rfl, ⟨rfl, ⟨rfl, ⟨rfl, trivial⟩⟩⟩⟩⟩⟩ ?_
      exact L2413 _ (by omega) _ _ h
    · refine rg_aload_n (C _) dL_law_2401 rfl ?_
      refine rg_iconst (C _) ic_0 dL_law_2402 ?_
      refine rg_laload (C _) dL_law_2403 ?_
      refine rg_iload (C _) dL_law_2404 rfl ?_
      refine rg_i2l (C _) dL_law_2406 ?_
      refine rg_lcmpeq (C _) (tgt := 2413) h dL_law_2407 (by decide) dL_law_2408 (fun h => ?_) (fun h => ?_)
      · refine rg_weak (C _) [some (.inr 1000), some (.inr 0), some (.inr 124), some (.inr 155), some (.inr 156), some (.inl l5), none, none, none] ⟨rfl, ⟨rfl, ⟨rfl, ⟨rfl, ⟨rfl, ⟨rfl, trivial⟩⟩⟩⟩⟩⟩ ?_
        exact L2413 _ (by omega) _ _ h
      · exact no_e h
  · exact no_e h
set_option maxHeartbeats 4000000 in
set_option maxRecDepth 100000 in
theorem law_loop {l : Launch} {D : va_G} {ad : Nat → Nat} {cy : Nat → ClassId} {b L : Nat} {xs : Nat → Int32} {V : (Array Slot → Prop) → Vt} (hl : l.stackTraces = false) (hI : Inj ad) (A : RgA l D ad cy RL cL_law 9 20 10862 20000 [] (FL ad b L xs) V) : ∀ (n κ : Nat), κ + 20 * n ≤ 20000 → ∀ (σ : Mem) (l5 : Int32), fL_law_L28 L xs n σ l5 = some () → V pT κ σ 28 [some (.inr 1000), some (.inr 0), some (.inr 124), some (.inr 155), some (.inr 156), some (.inl l5), none, none, none] [] := by
  have C := rga_C A
  intro n
  induction n with
  | zero => intro κ hκ σ l5 h; exact no_e h
  | succ n ih28 =>
    have L2416 := law_L2416 hl hI A ih28
    have K0 := law_K0 hl hI A ih28
    have K1 := law_K1 hl hI A ih28
    have K2 := law_K2 hl hI A ih28
    have K3 := law_K3 hl hI A ih28
    have K4 := law_K4 hl hI A ih28
    have K5 := law_K5 hl hI A ih28
    have K6 := law_K6 hl hI A ih28
    have K7 := law_K7 hl hI A ih28
    have K8 := law_K8 hl hI A ih28
    have K9 := law_K9 hl hI A ih28
    have K10 := law_K10 hl hI A ih28
    have K11 := law_K11 hl hI A ih28
    have K12 := law_K12 hl hI A ih28
    have K13 := law_K13 hl hI A ih28
    have K14 := law_K14 hl hI A ih28
    have K15 := law_K15 hl hI A ih28
    have K16 := law_K16 hl hI A ih28
    have K17 := law_K17 hl hI A ih28
    have K18 := law_K18 hl hI A ih28
    have K19 := law_K19 hl hI A ih28
    have K20 := law_K20 hl hI A ih28
    have K21 := law_K21 hl hI A ih28
    have K22 := law_K22 hl hI A ih28
    have K23 := law_K23 hl hI A ih28
    have K24 := law_K24 hl hI A ih28
    have K25 := law_K25 hl hI A ih28
    have K26 := law_K26 hl hI A ih28
    have K27 := law_K27 hl hI A ih28
    have K28 := law_K28 hl hI A ih28
    have K29 := law_K29 hl hI A ih28
    have K30 := law_K30 hl hI A ih28
    have K31 := law_K31 hl hI A ih28
    have K32 := law_K32 hl hI A ih28
    have K33 := law_K33 hl hI A ih28
    have K34 := law_K34 hl hI A ih28
    have K35 := law_K35 hl hI A ih28
    have K36 := law_K36 hl hI A ih28
    have K37 := law_K37 hl hI A ih28
    have K38 := law_K38 hl hI A ih28
    have K39 := law_K39 hl hI A ih28
    have K40 := law_K40 hl hI A ih28
    have K41 := law_K41 hl hI A ih28
    have K42 := law_K42 hl hI A ih28
    have K43 := law_K43 hl hI A ih28
    have K44 := law_K44 hl hI A ih28
    intro κ hκ σ l5 h
    have h : fL_law_B28 L xs (fL_law_L28 L xs n) σ l5 = some () := h
    refine rg_iload (C _) dL_law_28 rfl ?_
    refine rg_aload_n (C _) dL_law_30 rfl ?_
    refine rgl_slen (C _) dL_law_31 ?_
    refine rg_iconst (C _) ic_5 dL_law_32 ?_
    refine rg_isub (C _) dL_law_33 ?_
    refine rg_ic_gt (C _) (tgt := 2422) h (by decide) dL_law_34 (fun hc h => ?_) (fun hc h => ?_)
    · refine rg_iconst (C _) ic_1 dL_law_2422 ?_
      exact rgl_end (C _) ⟨by omega, by omega⟩ dL_law_2423
    · refine rg_aload_n (C _) dL_law_37 rfl ?_
      refine rg_iload (C _) dL_law_38 rfl ?_
      obtain ⟨hi, h⟩ := ck_e h
      refine rgl_sld (C _) hi dL_law_40 ?_
      refine rg_bipush (C _) bp_63 dL_law_41 ?_
      refine rg_iand (C _) dL_law_43 ?_
      refine sw_e h (fun he0 h => ?_) (fun he0 h => ?_)
      · refine rg_tinE (C _) 196 (tgt := 240) dL_law_44 he0 ⟨by decide, by decide⟩ (by decide) (by decide) ?_
        exact K0 _ (by omega) _ _ h
      · refine sw_e h (fun he1 h => ?_) (fun he1 h => ?_)
        · refine rg_tinE (C _) 209 (tgt := 253) dL_law_44 he1 ⟨by decide, by decide⟩ (by decide) (by decide) ?_
          exact K1 _ (by omega) _ _ h
        · refine sw_e h (fun he2 h => ?_) (fun he2 h => ?_)
          · refine rg_tinE (C _) 265 (tgt := 309) dL_law_44 he2 ⟨by decide, by decide⟩ (by decide) (by decide) ?_
            exact K2 _ (by omega) _ _ h
          · refine sw_e h (fun he3 h => ?_) (fun he3 h => ?_)
            · refine rg_tinE (C _) 333 (tgt := 377) dL_law_44 he3 ⟨by decide, by decide⟩ (by decide) (by decide) ?_
              exact K3 _ (by omega) _ _ h
            · refine sw_e h (fun he4 h => ?_) (fun he4 h => ?_)
              · refine rg_tinE (C _) 425 (tgt := 469) dL_law_44 he4 ⟨by decide, by decide⟩ (by decide) (by decide) ?_
                exact K4 _ (by omega) _ _ h
              · refine sw_e h (fun he5 h => ?_) (fun he5 h => ?_)
                · refine rg_tinE (C _) 481 (tgt := 525) dL_law_44 he5 ⟨by decide, by decide⟩ (by decide) (by decide) ?_
                  exact K5 _ (by omega) _ _ h
                · refine sw_e h (fun he6 h => ?_) (fun he6 h => ?_)
                  · refine rg_tinE (C _) 549 (tgt := 593) dL_law_44 he6 ⟨by decide, by decide⟩ (by decide) (by decide) ?_
                    exact K6 _ (by omega) _ _ h
                  · refine sw_e h (fun he7 h => ?_) (fun he7 h => ?_)
                    · refine rg_tinE (C _) 617 (tgt := 661) dL_law_44 he7 ⟨by decide, by decide⟩ (by decide) (by decide) ?_
                      exact K7 _ (by omega) _ _ h
                    · refine sw_e h (fun he8 h => ?_) (fun he8 h => ?_)
                      · refine rg_tinE (C _) 673 (tgt := 717) dL_law_44 he8 ⟨by decide, by decide⟩ (by decide) (by decide) ?_
                        exact K8 _ (by omega) _ _ h
                      · refine sw_e h (fun he9 h => ?_) (fun he9 h => ?_)
                        · refine rg_tinE (C _) 741 (tgt := 785) dL_law_44 he9 ⟨by decide, by decide⟩ (by decide) (by decide) ?_
                          exact K9 _ (by omega) _ _ h
                        · refine sw_e h (fun he10 h => ?_) (fun he10 h => ?_)
                          · refine rg_tinE (C _) 809 (tgt := 853) dL_law_44 he10 ⟨by decide, by decide⟩ (by decide) (by decide) ?_
                            exact K10 _ (by omega) _ _ h
                          · refine sw_e h (fun he11 h => ?_) (fun he11 h => ?_)
                            · refine rg_tinE (C _) 822 (tgt := 866) dL_law_44 he11 ⟨by decide, by decide⟩ (by decide) (by decide) ?_
                              exact K11 _ (by omega) _ _ h
                            · refine sw_e h (fun he12 h => ?_) (fun he12 h => ?_)
                              · refine rg_tinE (C _) 835 (tgt := 879) dL_law_44 he12 ⟨by decide, by decide⟩ (by decide) (by decide) ?_
                                exact K12 _ (by omega) _ _ h
                              · refine sw_e h (fun he13 h => ?_) (fun he13 h => ?_)
                                · refine rg_tinE (C _) 919 (tgt := 963) dL_law_44 he13 ⟨by decide, by decide⟩ (by decide) (by decide) ?_
                                  exact K13 _ (by omega) _ _ h
                                · refine sw_e h (fun he14 h => ?_) (fun he14 h => ?_)
                                  · refine rg_tinE (C _) 963 (tgt := 1007) dL_law_44 he14 ⟨by decide, by decide⟩ (by decide) (by decide) ?_
                                    exact K14 _ (by omega) _ _ h
                                  · refine sw_e h (fun he15 h => ?_) (fun he15 h => ?_)
                                    · refine rg_tinE (C _) 1019 (tgt := 1063) dL_law_44 he15 ⟨by decide, by decide⟩ (by decide) (by decide) ?_
                                      exact K15 _ (by omega) _ _ h
                                    · refine sw_e h (fun he16 h => ?_) (fun he16 h => ?_)
                                      · refine rg_tinE (C _) 1032 (tgt := 1076) dL_law_44 he16 ⟨by decide, by decide⟩ (by decide) (by decide) ?_
                                        exact K16 _ (by omega) _ _ h
                                      · refine sw_e h (fun he17 h => ?_) (fun he17 h => ?_)
                                        · refine rg_tinE (C _) 1088 (tgt := 1132) dL_law_44 he17 ⟨by decide, by decide⟩ (by decide) (by decide) ?_
                                          exact K17 _ (by omega) _ _ h
                                        · refine sw_e h (fun he18 h => ?_) (fun he18 h => ?_)
                                          · refine rg_tinE (C _) 1144 (tgt := 1188) dL_law_44 he18 ⟨by decide, by decide⟩ (by decide) (by decide) ?_
                                            exact K18 _ (by omega) _ _ h
                                          · refine sw_e h (fun he19 h => ?_) (fun he19 h => ?_)
                                            · refine rg_tinE (C _) 1200 (tgt := 1244) dL_law_44 he19 ⟨by decide, by decide⟩ (by decide) (by decide) ?_
                                              exact K19 _ (by omega) _ _ h
                                            · refine sw_e h (fun he20 h => ?_) (fun he20 h => ?_)
                                              · refine rg_tinE (C _) 1256 (tgt := 1300) dL_law_44 he20 ⟨by decide, by decide⟩ (by decide) (by decide) ?_
                                                exact K20 _ (by omega) _ _ h
                                              · refine sw_e h (fun he21 h => ?_) (fun he21 h => ?_)
                                                · refine rg_tinE (C _) 1297 (tgt := 1341) dL_law_44 he21 ⟨by decide, by decide⟩ (by decide) (by decide) ?_
                                                  exact K21 _ (by omega) _ _ h
                                                · refine sw_e h (fun he22 h => ?_) (fun he22 h => ?_)
                                                  · refine rg_tinE (C _) 1365 (tgt := 1409) dL_law_44 he22 ⟨by decide, by decide⟩ (by decide) (by decide) ?_
                                                    exact K22 _ (by omega) _ _ h
                                                  · refine sw_e h (fun he23 h => ?_) (fun he23 h => ?_)
                                                    · refine rg_tinE (C _) 1409 (tgt := 1453) dL_law_44 he23 ⟨by decide, by decide⟩ (by decide) (by decide) ?_
                                                      exact K23 _ (by omega) _ _ h
                                                    · refine sw_e h (fun he24 h => ?_) (fun he24 h => ?_)
                                                      · refine rg_tinE (C _) 1484 (tgt := 1528) dL_law_44 he24 ⟨by decide, by decide⟩ (by decide) (by decide) ?_
                                                        exact K24 _ (by omega) _ _ h
                                                      · refine sw_e h (fun he25 h => ?_) (fun he25 h => ?_)
                                                        · refine rg_tinE (C _) 1497 (tgt := 1541) dL_law_44 he25 ⟨by decide, by decide⟩ (by decide) (by decide) ?_
                                                          exact K25 _ (by omega) _ _ h
                                                        · refine sw_e h (fun he26 h => ?_) (fun he26 h => ?_)
                                                          · refine rg_tinE (C _) 1541 (tgt := 1585) dL_law_44 he26 ⟨by decide, by decide⟩ (by decide) (by decide) ?_
                                                            exact K26 _ (by omega) _ _ h
                                                          · refine sw_e h (fun he27 h => ?_) (fun he27 h => ?_)
                                                            · refine rg_tinE (C _) 1597 (tgt := 1641) dL_law_44 he27 ⟨by decide, by decide⟩ (by decide) (by decide) ?_
                                                              exact K27 _ (by omega) _ _ h
                                                            · refine sw_e h (fun he28 h => ?_) (fun he28 h => ?_)
                                                              · refine rg_tinE (C _) 1610 (tgt := 1654) dL_law_44 he28 ⟨by decide, by decide⟩ (by decide) (by decide) ?_
                                                                exact K28 _ (by omega) _ _ h
                                                              · refine sw_e h (fun he29 h => ?_) (fun he29 h => ?_)
                                                                · refine rg_tinE (C _) 1623 (tgt := 1667) dL_law_44 he29 ⟨by decide, by decide⟩ (by decide) (by decide) ?_
                                                                  exact K29 _ (by omega) _ _ h
                                                                · refine sw_e h (fun he30 h => ?_) (fun he30 h => ?_)
                                                                  · refine rg_tinE (C _) 1679 (tgt := 1723) dL_law_44 he30 ⟨by decide, by decide⟩ (by decide) (by decide) ?_
                                                                    exact K30 _ (by omega) _ _ h
                                                                  · refine sw_e h (fun he31 h => ?_) (fun he31 h => ?_)
                                                                    · refine rg_tinE (C _) 1692 (tgt := 1736) dL_law_44 he31 ⟨by decide, by decide⟩ (by decide) (by decide) ?_
                                                                      exact K31 _ (by omega) _ _ h
                                                                    · refine sw_e h (fun he32 h => ?_) (fun he32 h => ?_)
                                                                      · refine rg_tinE (C _) 1760 (tgt := 1804) dL_law_44 he32 ⟨by decide, by decide⟩ (by decide) (by decide) ?_
                                                                        exact K32 _ (by omega) _ _ h
                                                                      · refine sw_e h (fun he33 h => ?_) (fun he33 h => ?_)
                                                                        · refine rg_tinE (C _) 1825 (tgt := 1869) dL_law_44 he33 ⟨by decide, by decide⟩ (by decide) (by decide) ?_
                                                                          exact K33 _ (by omega) _ _ h
                                                                        · refine sw_e h (fun he34 h => ?_) (fun he34 h => ?_)
                                                                          · refine rg_tinE (C _) 1869 (tgt := 1913) dL_law_44 he34 ⟨by decide, by decide⟩ (by decide) (by decide) ?_
                                                                            exact K34 _ (by omega) _ _ h
                                                                          · refine sw_e h (fun he35 h => ?_) (fun he35 h => ?_)
                                                                            · refine rg_tinE (C _) 1913 (tgt := 1957) dL_law_44 he35 ⟨by decide, by decide⟩ (by decide) (by decide) ?_
                                                                              exact K35 _ (by omega) _ _ h
                                                                            · refine sw_e h (fun he36 h => ?_) (fun he36 h => ?_)
                                                                              · refine rg_tinE (C _) 1969 (tgt := 2013) dL_law_44 he36 ⟨by decide, by decide⟩ (by decide) (by decide) ?_
                                                                                exact K36 _ (by omega) _ _ h
                                                                              · refine sw_e h (fun he37 h => ?_) (fun he37 h => ?_)
                                                                                · refine rg_tinE (C _) 2013 (tgt := 2057) dL_law_44 he37 ⟨by decide, by decide⟩ (by decide) (by decide) ?_
                                                                                  exact K37 _ (by omega) _ _ h
                                                                                · refine sw_e h (fun he38 h => ?_) (fun he38 h => ?_)
                                                                                  · refine rg_tinE (C _) 2057 (tgt := 2101) dL_law_44 he38 ⟨by decide, by decide⟩ (by decide) (by decide) ?_
                                                                                    exact K38 _ (by omega) _ _ h
                                                                                  · refine sw_e h (fun he39 h => ?_) (fun he39 h => ?_)
                                                                                    · refine rg_tinE (C _) 2115 (tgt := 2159) dL_law_44 he39 ⟨by decide, by decide⟩ (by decide) (by decide) ?_
                                                                                      exact K39 _ (by omega) _ _ h
                                                                                    · refine sw_e h (fun he40 h => ?_) (fun he40 h => ?_)
                                                                                      · refine rg_tinE (C _) 2159 (tgt := 2203) dL_law_44 he40 ⟨by decide, by decide⟩ (by decide) (by decide) ?_
                                                                                        exact K40 _ (by omega) _ _ h
                                                                                      · refine sw_e h (fun he41 h => ?_) (fun he41 h => ?_)
                                                                                        · refine rg_tinE (C _) 2203 (tgt := 2247) dL_law_44 he41 ⟨by decide, by decide⟩ (by decide) (by decide) ?_
                                                                                          exact K41 _ (by omega) _ _ h
                                                                                        · refine sw_e h (fun he42 h => ?_) (fun he42 h => ?_)
                                                                                          · refine rg_tinE (C _) 2271 (tgt := 2315) dL_law_44 he42 ⟨by decide, by decide⟩ (by decide) (by decide) ?_
                                                                                            exact K42 _ (by omega) _ _ h
                                                                                          · refine sw_e h (fun he43 h => ?_) (fun he43 h => ?_)
                                                                                            · refine rg_tinE (C _) 2315 (tgt := 2359) dL_law_44 he43 ⟨by decide, by decide⟩ (by decide) (by decide) ?_
                                                                                              exact K43 _ (by omega) _ _ h
                                                                                            · refine sw_e h (fun he44 h => ?_) (fun he44 h => ?_)
                                                                                              · refine rg_tinE (C _) 2328 (tgt := 2372) dL_law_44 he44 ⟨by decide, by decide⟩ (by decide) (by decide) ?_
                                                                                                exact K44 _ (by omega) _ _ h
                                                                                              · refine rg_tout (C _) (tgt := 2416) dL_law_44 (tout 44 (by decide) (to_s (to_s (to_s (to_s (to_s (to_s (to_s (to_s (to_s (to_s (to_s (to_s (to_s (to_s (to_s (to_s (to_s (to_s (to_s (to_s (to_s (to_s (to_s (to_s (to_s (to_s (to_s (to_s (to_s (to_s (to_s (to_s (to_s (to_s (to_s (to_s (to_s (to_s (to_s (to_s (to_s (to_s (to_s (to_s (to_0 he0) he1) he2) he3) he4) he5) he6) he7) he8) he9) he10) he11) he12) he13) he14) he15) he16) he17) he18) he19) he20) he21) he22) he23) he24) he25) he26) he27) he28) he29) he30) he31) he32) he33) he34) he35) he36) he37) he38) he39) he40) he41) he42) he43) he44)) (by decide) ?_
                                                                                                exact L2416 _ (by omega) _ _ h
