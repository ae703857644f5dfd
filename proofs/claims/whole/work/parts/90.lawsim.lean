/-! PURE, 50: the law's calls, one by one (by program: wip/gen/lawsim.py) -/
theorem ckw {α : Type} {i L w : Nat} (hi : i + 5 ≤ L) (hL : L ≤ 3000) (hw : w < 5) (a : Option α) : ck (nI i + nI w) L a = a := by
  rw [nI_add]
  exact ck_i (by omega) (by omega) a
theorem ck1 {α : Type} {i L : Nat} (hi : i + 5 ≤ L) (hL : L ≤ 3000) (a : Option α) : ck (nI i + 1) L a = a := ckw (w := 1) hi hL (by decide) a
theorem ck2 {α : Type} {i L : Nat} (hi : i + 5 ≤ L) (hL : L ≤ 3000) (a : Option α) : ck (nI i + 2) L a = a := ckw (w := 2) hi hL (by decide) a
theorem ck3 {α : Type} {i L : Nat} (hi : i + 5 ≤ L) (hL : L ≤ 3000) (a : Option α) : ck (nI i + 3) L a = a := ckw (w := 3) hi hL (by decide) a
theorem ck4 {α : Type} {i L : Nat} (hi : i + 5 ≤ L) (hL : L ≤ 3000) (a : Option α) : ck (nI i + 4) L a = a := ckw (w := 4) hi hL (by decide) a
theorem m_thrown (τ : Mem) : fX10_thrown τ = some (τ 124 0, τ) := rfl
theorem fb27 {τ τ' : Mem} {a b s r : Int32} (h : fX10_isForbidden_L27 τ a b s = some (r, τ')) : r = 0 ∨ r = 1 := by
  unfold fX10_isForbidden_L27 fX10_isForbidden_L50 at h
  rw [lt_e2] at h
  split at h
  · cases hx : fX10_isForbiddenNow (mst τ 124 0 s) a b with
    | none => rw [hx] at h; cases h
    | some q =>
      obtain ⟨v, τ6⟩ := q
      rw [hx, bd_some] at h
      split at h
      · cases h; exact Or.inl rfl
      · cases h; exact Or.inr rfl
  · cases h; exact Or.inl rfl
theorem fb01 {τ τ' : Mem} {a b r : Int32} (h : fX10_isForbidden τ a b = some (r, τ')) : r = 0 ∨ r = 1 := by
  unfold fX10_isForbidden at h
  cases hx : fX10_isVariable τ a with
  | none => rw [hx] at h; cases h
  | some q =>
    obtain ⟨v, τ6⟩ := q
    rw [hx, bd_some] at h
    split at h
    · exact fb27 h
    · cases hy : fX10_isIn τ6 a b with
      | none => rw [hy] at h; cases h
      | some q =>
        obtain ⟨w, τ7⟩ := q
        rw [hy, bd_some] at h
        split at h
        · exact fb27 h
        · exact fb27 h
theorem share_glue {B : Nat} {σ : Mem} (hB : B ≤ 18000) (r : RR B σ σ) : ∃ k σ1 b σ2, wL_improvingShare σ = some (k, σ1) ∧ fX10_improvingShare σ1 = some (b, σ2) ∧ RR (B + 30) σ2 σ2 ∧ σ2 124 0 = k ∧ (k = 0 → Op.cmpValue (FP.dcmp (cmb (σ2 156 0) (σ2 156 1)) b) CmpOp.l = 0) := by
  obtain ⟨k0, σ1, b0, τ0, hx, -⟩ := S_share B σ σ hB r
  have ax := fq_wL_improvingShare hx
  have r1 : RR B σ σ1 := RR_tr r (ag_r (W := fun c _ => c < 0)) (fun _ _ _ _ => by omega) ax (fun c i h1 h2 _ => by omega)
  obtain ⟨k, σ1', b, τ1, hx2, hf, hr, ht, hb⟩ := S_share B σ σ1 hB r1
  rw [hx] at hx2
  cases hx2
  have af := fq_X10_improvingShare hf
  refine ⟨k0, σ1, b, τ1, hx, hf, RR_tr hr af (fun c i h1 _ => by omega) (ag_r (W := fun c _ => c < 0)) (fun _ _ _ _ _ => by omega), ht, fun h0 => ?_⟩
  rw [af 156 0 (by omega), af 156 1 (by omega)]
  exact hb h0
theorem k_0 {L : Nat} {xs : Nat → Int32} {r28 : Mem → Int32 → Option Unit} {B i : Nat} {σ : Mem} (hB : B ≤ 18000) (h : RR B σ σ) (hi : i + 5 ≤ L) (hL : L ≤ 3000) (K : ∀ σ' : Mem, RR (B + 30) σ' σ' → r28 σ' (nI i + (5 : Int32)) = some ()) : fL_case0 L xs r28 σ (nI i) = some () := by
  obtain ⟨k, σ1, σ2, e1, e2, hr⟩ := sim1_glue (S_clear) (fun h => fq_X9_clear h) (fun _ _ _ _ => by omega) (fun h => fq_X10_clear h) (fun _ _ _ => by omega) hB h
  unfold fL_case0 fL_law_L2416
  rw [e1, bd_some, e2, bd_some, if_pos rfl]
  exact K _ hr
theorem k_1 {L : Nat} {xs : Nat → Int32} {r28 : Mem → Int32 → Option Unit} {B i : Nat} {σ : Mem} (hB : B ≤ 18000) (h : RR B σ σ) (hi : i + 5 ≤ L) (hL : L ≤ 3000) (K : ∀ σ' : Mem, RR (B + 30) σ' σ' → r28 σ' (nI i + (5 : Int32)) = some ()) : fL_case1 L xs r28 σ (nI i) = some () := by
  obtain ⟨k, σ1, b, σ2, e1, e2, hr, ht, hb⟩ := sim_glue (S_addVariable (xs ((nI i) + (1 : Int32)).toNatClampNeg)) (fun h => fq_wL_addVariable h) (fun _ _ _ _ => by omega) (fun h => fq_X10_addVariable h) (fun _ _ _ => by omega) hB h
  have e1 : wL_addVariable σ (xs ((nI i) + (1 : Int32)).toNatClampNeg) = some (k, σ1) := e1
  have e2 : fX10_addVariable σ1 (xs ((nI i) + (1 : Int32)).toNatClampNeg) = some (b, σ2) := e2
  unfold fL_case1 fL_law_L306 fL_law_L2416
  rw [ck1 hi hL, e1, bd_some, ck1 hi hL, e2, bd_some, m_thrown, bd_some, if_pos ht]
  by_cases c : k = 0
  · rw [if_pos c, if_pos (hb c)]; exact K _ hr
  · rw [if_neg c]; exact K _ hr
theorem k_2 {L : Nat} {xs : Nat → Int32} {r28 : Mem → Int32 → Option Unit} {B i : Nat} {σ : Mem} (hB : B ≤ 18000) (h : RR B σ σ) (hi : i + 5 ≤ L) (hL : L ≤ 3000) (K : ∀ σ' : Mem, RR (B + 30) σ' σ' → r28 σ' (nI i + (5 : Int32)) = some ()) : fL_case2 L xs r28 σ (nI i) = some () := by
  obtain ⟨k, σ1, b, σ2, e1, e2, hr, ht, hb⟩ := sim_glue (S_setDomain (xs ((nI i) + (1 : Int32)).toNatClampNeg) (xs ((nI i) + (2 : Int32)).toNatClampNeg)) (fun h => fq_wL_setDomain h) (fun _ _ _ _ => by omega) (fun h => fq_X10_setDomain h) (fun _ _ _ => by omega) hB h
  have e1 : wL_setDomain σ (xs ((nI i) + (1 : Int32)).toNatClampNeg) (xs ((nI i) + (2 : Int32)).toNatClampNeg) = some (k, σ1) := e1
  have e2 : fX10_setDomain σ1 (xs ((nI i) + (1 : Int32)).toNatClampNeg) (xs ((nI i) + (2 : Int32)).toNatClampNeg) = some (b, σ2) := e2
  unfold fL_case2 fL_law_L374 fL_law_L2416
  rw [ck1 hi hL, ck2 hi hL, e1, bd_some, ck1 hi hL, ck2 hi hL, e2, bd_some, m_thrown, bd_some, if_pos ht]
  by_cases c : k = 0
  · rw [if_pos c, if_pos (hb c)]; exact K _ hr
  · rw [if_neg c]; exact K _ hr
theorem k_3 {L : Nat} {xs : Nat → Int32} {r28 : Mem → Int32 → Option Unit} {B i : Nat} {σ : Mem} (hB : B ≤ 18000) (h : RR B σ σ) (hi : i + 5 ≤ L) (hL : L ≤ 3000) (K : ∀ σ' : Mem, RR (B + 30) σ' σ' → r28 σ' (nI i + (5 : Int32)) = some ()) : fL_case3 L xs r28 σ (nI i) = some () := by
  obtain ⟨k, σ1, b, σ2, e1, e2, hr, ht, hb⟩ := sim_glue (S_addConstraint (xs ((nI i) + (1 : Int32)).toNatClampNeg) (xs ((nI i) + (2 : Int32)).toNatClampNeg) (xs ((nI i) + (3 : Int32)).toNatClampNeg) (xs ((nI i) + (4 : Int32)).toNatClampNeg)) (fun h => fq_wL_addConstraint h) (fun _ _ _ _ => by omega) (fun h => fq_X10_addConstraint h) (fun _ _ _ => by omega) hB h
  have e1 : wL_addConstraint σ (xs ((nI i) + (1 : Int32)).toNatClampNeg) (xs ((nI i) + (2 : Int32)).toNatClampNeg) (xs ((nI i) + (3 : Int32)).toNatClampNeg) (xs ((nI i) + (4 : Int32)).toNatClampNeg) = some (k, σ1) := e1
  have e2 : fX10_addConstraint σ1 (xs ((nI i) + (1 : Int32)).toNatClampNeg) (xs ((nI i) + (2 : Int32)).toNatClampNeg) (xs ((nI i) + (3 : Int32)).toNatClampNeg) (xs ((nI i) + (4 : Int32)).toNatClampNeg) = some (b, σ2) := e2
  unfold fL_case3 fL_law_L466 fL_law_L2416
  rw [ck1 hi hL, ck2 hi hL, ck3 hi hL, ck4 hi hL, e1, bd_some, ck1 hi hL, ck2 hi hL, ck3 hi hL, ck4 hi hL, e2, bd_some, m_thrown, bd_some, if_pos ht]
  by_cases c : k = 0
  · rw [if_pos c, if_pos (hb c)]; exact K _ hr
  · rw [if_neg c]; exact K _ hr
theorem k_4 {L : Nat} {xs : Nat → Int32} {r28 : Mem → Int32 → Option Unit} {B i : Nat} {σ : Mem} (hB : B ≤ 18000) (h : RR B σ σ) (hi : i + 5 ≤ L) (hL : L ≤ 3000) (K : ∀ σ' : Mem, RR (B + 30) σ' σ' → r28 σ' (nI i + (5 : Int32)) = some ()) : fL_case4 L xs r28 σ (nI i) = some () := by
  obtain ⟨k, σ1, b, σ2, e1, e2, hr, ht, hb⟩ := sim_glue (S_removeConstraint (xs ((nI i) + (1 : Int32)).toNatClampNeg)) (fun h => fq_wL_removeConstraint h) (fun _ _ _ _ => by omega) (fun h => fq_X10_removeConstraint h) (fun _ _ _ => by omega) hB h
  have e1 : wL_removeConstraint σ (xs ((nI i) + (1 : Int32)).toNatClampNeg) = some (k, σ1) := e1
  have e2 : fX10_removeConstraint σ1 (xs ((nI i) + (1 : Int32)).toNatClampNeg) = some (b, σ2) := e2
  unfold fL_case4 fL_law_L522 fL_law_L2416
  rw [ck1 hi hL, e1, bd_some, ck1 hi hL, e2, bd_some, m_thrown, bd_some, if_pos ht]
  by_cases c : k = 0
  · rw [if_pos c, if_pos (hb c)]; exact K _ hr
  · rw [if_neg c]; exact K _ hr
theorem k_5 {L : Nat} {xs : Nat → Int32} {r28 : Mem → Int32 → Option Unit} {B i : Nat} {σ : Mem} (hB : B ≤ 18000) (h : RR B σ σ) (hi : i + 5 ≤ L) (hL : L ≤ 3000) (K : ∀ σ' : Mem, RR (B + 30) σ' σ' → r28 σ' (nI i + (5 : Int32)) = some ()) : fL_case5 L xs r28 σ (nI i) = some () := by
  obtain ⟨k, σ1, b, σ2, e1, e2, hr, ht, hb⟩ := sim_glue (S_setWeight (xs ((nI i) + (1 : Int32)).toNatClampNeg) (xs ((nI i) + (2 : Int32)).toNatClampNeg)) (fun h => fq_wL_setWeight h) (fun _ _ _ _ => by omega) (fun h => fq_X10_setWeight h) (fun _ _ _ => by omega) hB h
  have e1 : wL_setWeight σ (xs ((nI i) + (1 : Int32)).toNatClampNeg) (xs ((nI i) + (2 : Int32)).toNatClampNeg) = some (k, σ1) := e1
  have e2 : fX10_setWeight σ1 (xs ((nI i) + (1 : Int32)).toNatClampNeg) (xs ((nI i) + (2 : Int32)).toNatClampNeg) = some (b, σ2) := e2
  unfold fL_case5 fL_law_L590 fL_law_L2416
  rw [ck1 hi hL, ck2 hi hL, e1, bd_some, ck1 hi hL, ck2 hi hL, e2, bd_some, m_thrown, bd_some, if_pos ht]
  by_cases c : k = 0
  · rw [if_pos c, if_pos (hb c)]; exact K _ hr
  · rw [if_neg c]; exact K _ hr
theorem k_6 {L : Nat} {xs : Nat → Int32} {r28 : Mem → Int32 → Option Unit} {B i : Nat} {σ : Mem} (hB : B ≤ 18000) (h : RR B σ σ) (hi : i + 5 ≤ L) (hL : L ≤ 3000) (K : ∀ σ' : Mem, RR (B + 30) σ' σ' → r28 σ' (nI i + (5 : Int32)) = some ()) : fL_case6 L xs r28 σ (nI i) = some () := by
  obtain ⟨k, σ1, b, σ2, e1, e2, hr, ht, hb⟩ := sim_glue (S_setValue (xs ((nI i) + (1 : Int32)).toNatClampNeg) (xs ((nI i) + (2 : Int32)).toNatClampNeg)) (fun h => fq_wL_setValue h) (fun _ _ _ _ => by omega) (fun h => fq_X10_setValue h) (fun _ _ _ => by omega) hB h
  have e1 : wL_setValue σ (xs ((nI i) + (1 : Int32)).toNatClampNeg) (xs ((nI i) + (2 : Int32)).toNatClampNeg) = some (k, σ1) := e1
  have e2 : fX10_setValue σ1 (xs ((nI i) + (1 : Int32)).toNatClampNeg) (xs ((nI i) + (2 : Int32)).toNatClampNeg) = some (b, σ2) := e2
  unfold fL_case6 fL_law_L658 fL_law_L2416
  rw [ck1 hi hL, ck2 hi hL, e1, bd_some, ck1 hi hL, ck2 hi hL, e2, bd_some, m_thrown, bd_some, if_pos ht]
  by_cases c : k = 0
  · rw [if_pos c, if_pos (hb c)]; exact K _ hr
  · rw [if_neg c]; exact K _ hr
theorem k_7 {L : Nat} {xs : Nat → Int32} {r28 : Mem → Int32 → Option Unit} {B i : Nat} {σ : Mem} (hB : B ≤ 18000) (h : RR B σ σ) (hi : i + 5 ≤ L) (hL : L ≤ 3000) (K : ∀ σ' : Mem, RR (B + 30) σ' σ' → r28 σ' (nI i + (5 : Int32)) = some ()) : fL_case7 L xs r28 σ (nI i) = some () := by
  obtain ⟨k, σ1, b, σ2, e1, e2, hr, ht, hb⟩ := sim_glue (S_count (xs ((nI i) + (1 : Int32)).toNatClampNeg)) (fun h => fq_wL_count h) (fun _ _ _ _ => by omega) (fun h => fq_X10_count h) (fun _ _ _ => by omega) hB h
  have e1 : wL_count σ (xs ((nI i) + (1 : Int32)).toNatClampNeg) = some (k, σ1) := e1
  have e2 : fX10_count σ1 (xs ((nI i) + (1 : Int32)).toNatClampNeg) = some (b, σ2) := e2
  unfold fL_case7 fL_law_L714 fL_law_L2416
  rw [ck1 hi hL, e1, bd_some, ck1 hi hL, e2, bd_some, m_thrown, bd_some, if_pos ht]
  by_cases c : k = 0
  · rw [if_pos c, if_pos (hb c)]; exact K _ hr
  · rw [if_neg c]; exact K _ hr
theorem k_8 {L : Nat} {xs : Nat → Int32} {r28 : Mem → Int32 → Option Unit} {B i : Nat} {σ : Mem} (hB : B ≤ 18000) (h : RR B σ σ) (hi : i + 5 ≤ L) (hL : L ≤ 3000) (K : ∀ σ' : Mem, RR (B + 30) σ' σ' → r28 σ' (nI i + (5 : Int32)) = some ()) : fL_case8 L xs r28 σ (nI i) = some () := by
  obtain ⟨k, σ1, b, σ2, e1, e2, hr, ht, hb⟩ := sim_glue (S_constraint (xs ((nI i) + (1 : Int32)).toNatClampNeg) (xs ((nI i) + (2 : Int32)).toNatClampNeg)) (fun h => fq_wL_constraint h) (fun _ _ _ _ => by omega) (fun h => fq_X10_constraint h) (fun _ _ _ => by omega) hB h
  have e1 : wL_constraint σ (xs ((nI i) + (1 : Int32)).toNatClampNeg) (xs ((nI i) + (2 : Int32)).toNatClampNeg) = some (k, σ1) := e1
  have e2 : fX10_constraint σ1 (xs ((nI i) + (1 : Int32)).toNatClampNeg) (xs ((nI i) + (2 : Int32)).toNatClampNeg) = some (b, σ2) := e2
  unfold fL_case8 fL_law_L782 fL_law_L2416
  rw [ck1 hi hL, ck2 hi hL, e1, bd_some, ck1 hi hL, ck2 hi hL, e2, bd_some, m_thrown, bd_some, if_pos ht]
  by_cases c : k = 0
  · rw [if_pos c, if_pos (hb c)]; exact K _ hr
  · rw [if_neg c]; exact K _ hr
theorem k_9 {L : Nat} {xs : Nat → Int32} {r28 : Mem → Int32 → Option Unit} {B i : Nat} {σ : Mem} (hB : B ≤ 18000) (h : RR B σ σ) (hi : i + 5 ≤ L) (hL : L ≤ 3000) (K : ∀ σ' : Mem, RR (B + 30) σ' σ' → r28 σ' (nI i + (5 : Int32)) = some ()) : fL_case9 L xs r28 σ (nI i) = some () := by
  obtain ⟨k, σ1, b, σ2, e1, e2, hr, ht, hb⟩ := sim_glue (S_variable (xs ((nI i) + (1 : Int32)).toNatClampNeg) (xs ((nI i) + (2 : Int32)).toNatClampNeg)) (fun h => fq_wL_variable h) (fun _ _ _ _ => by omega) (fun h => fq_X10_variable h) (fun _ _ _ => by omega) hB h
  have e1 : wL_variable σ (xs ((nI i) + (1 : Int32)).toNatClampNeg) (xs ((nI i) + (2 : Int32)).toNatClampNeg) = some (k, σ1) := e1
  have e2 : fX10_variable σ1 (xs ((nI i) + (1 : Int32)).toNatClampNeg) (xs ((nI i) + (2 : Int32)).toNatClampNeg) = some (b, σ2) := e2
  unfold fL_case9 fL_law_L850 fL_law_L2416
  rw [ck1 hi hL, ck2 hi hL, e1, bd_some, ck1 hi hL, ck2 hi hL, e2, bd_some, m_thrown, bd_some, if_pos ht]
  by_cases c : k = 0
  · rw [if_pos c, if_pos (hb c)]; exact K _ hr
  · rw [if_neg c]; exact K _ hr
theorem k_10 {L : Nat} {xs : Nat → Int32} {r28 : Mem → Int32 → Option Unit} {B i : Nat} {σ : Mem} (hB : B ≤ 18000) (h : RR B σ σ) (hi : i + 5 ≤ L) (hL : L ≤ 3000) (K : ∀ σ' : Mem, RR (B + 30) σ' σ' → r28 σ' (nI i + (5 : Int32)) = some ()) : fL_case10 L xs r28 σ (nI i) = some () := by
  obtain ⟨k, σ1, σ2, e1, e2, hr⟩ := sim1_glue (S_cost) (fun h => fq_X9_cost h) (fun _ _ _ _ => by omega) (fun h => fq_X10_cost h) (fun _ _ _ => by omega) hB h
  unfold fL_case10 fL_law_L2416
  rw [e1, bd_some, e2, bd_some, if_pos rfl]
  exact K _ hr
theorem k_11 {L : Nat} {xs : Nat → Int32} {r28 : Mem → Int32 → Option Unit} {B i : Nat} {σ : Mem} (hB : B ≤ 18000) (h : RR B σ σ) (hi : i + 5 ≤ L) (hL : L ≤ 3000) (K : ∀ σ' : Mem, RR (B + 30) σ' σ' → r28 σ' (nI i + (5 : Int32)) = some ()) : fL_case11 L xs r28 σ (nI i) = some () := by
  obtain ⟨k, σ1, σ2, e1, e2, hr⟩ := sim1_glue (S_bestCost) (fun h => fq_X9_bestCost h) (fun _ _ _ _ => by omega) (fun h => fq_X10_bestCost h) (fun _ _ _ => by omega) hB h
  unfold fL_case11 fL_law_L2416
  rw [e1, bd_some, e2, bd_some, if_pos rfl]
  exact K _ hr
theorem k_13 {L : Nat} {xs : Nat → Int32} {r28 : Mem → Int32 → Option Unit} {B i : Nat} {σ : Mem} (hB : B ≤ 18000) (h : RR B σ σ) (hi : i + 5 ≤ L) (hL : L ≤ 3000) (K : ∀ σ' : Mem, RR (B + 30) σ' σ' → r28 σ' (nI i + (5 : Int32)) = some ()) : fL_case13 L xs r28 σ (nI i) = some () := by
  obtain ⟨k, σ1, b, σ2, e1, e2, hr, ht, hb⟩ := sim_glue (S_mostBlamed) (fun h => fq_wL_mostBlamed h) (fun _ _ _ _ => by omega) (fun h => fq_X10_mostBlamed h) (fun _ _ _ => by omega) hB h
  have e1 : wL_mostBlamed σ = some (k, σ1) := e1
  have e2 : fX10_mostBlamed σ1 = some (b, σ2) := e2
  unfold fL_case13 fL_law_L1004 fL_law_L2416
  rw [e1, bd_some, e2, bd_some, m_thrown, bd_some, if_pos ht]
  by_cases c : k = 0
  · rw [if_pos c, if_pos (hb c)]; exact K _ hr
  · rw [if_neg c]; exact K _ hr
theorem k_14 {L : Nat} {xs : Nat → Int32} {r28 : Mem → Int32 → Option Unit} {B i : Nat} {σ : Mem} (hB : B ≤ 18000) (h : RR B σ σ) (hi : i + 5 ≤ L) (hL : L ≤ 3000) (K : ∀ σ' : Mem, RR (B + 30) σ' σ' → r28 σ' (nI i + (5 : Int32)) = some ()) : fL_case14 L xs r28 σ (nI i) = some () := by
  obtain ⟨k, σ1, b, σ2, e1, e2, hr, ht, hb⟩ := sim_glue (S_relief (xs ((nI i) + (1 : Int32)).toNatClampNeg)) (fun h => fq_wL_relief h) (fun _ _ _ _ => by omega) (fun h => fq_X10_relief h) (fun _ _ _ => by omega) hB h
  have e1 : wL_relief σ (xs ((nI i) + (1 : Int32)).toNatClampNeg) = some (k, σ1) := e1
  have e2 : fX10_relief σ1 (xs ((nI i) + (1 : Int32)).toNatClampNeg) = some (b, σ2) := e2
  unfold fL_case14 fL_law_L1060 fL_law_L2416
  rw [ck1 hi hL, e1, bd_some, ck1 hi hL, e2, bd_some, m_thrown, bd_some, if_pos ht]
  by_cases c : k = 0
  · rw [if_pos c, if_pos (hb c)]; exact K _ hr
  · rw [if_neg c]; exact K _ hr
theorem k_15 {L : Nat} {xs : Nat → Int32} {r28 : Mem → Int32 → Option Unit} {B i : Nat} {σ : Mem} (hB : B ≤ 18000) (h : RR B σ σ) (hi : i + 5 ≤ L) (hL : L ≤ 3000) (K : ∀ σ' : Mem, RR (B + 30) σ' σ' → r28 σ' (nI i + (5 : Int32)) = some ()) : fL_case15 L xs r28 σ (nI i) = some () := by
  obtain ⟨k, σ1, σ2, e1, e2, hr⟩ := sim1_glue (S_takeBest) (fun h => fq_X9_takeBest h) (fun _ _ _ _ => by omega) (fun h => fq_X10_takeBest h) (fun _ _ _ => by omega) hB h
  unfold fL_case15 fL_law_L2416
  rw [e1, bd_some, e2, bd_some, if_pos rfl]
  exact K _ hr
theorem k_16 {L : Nat} {xs : Nat → Int32} {r28 : Mem → Int32 → Option Unit} {B i : Nat} {σ : Mem} (hB : B ≤ 18000) (h : RR B σ σ) (hi : i + 5 ≤ L) (hL : L ≤ 3000) (K : ∀ σ' : Mem, RR (B + 30) σ' σ' → r28 σ' (nI i + (5 : Int32)) = some ()) : fL_case16 L xs r28 σ (nI i) = some () := by
  obtain ⟨k, σ1, b, σ2, e1, e2, hr, ht, hb⟩ := sim_glue (S_setNeighborhood (xs ((nI i) + (1 : Int32)).toNatClampNeg)) (fun h => fq_wL_setNeighborhood h) (fun _ _ _ _ => by omega) (fun h => fq_X10_setNeighborhood h) (fun _ _ _ => by omega) hB h
  have e1 : wL_setNeighborhood σ (xs ((nI i) + (1 : Int32)).toNatClampNeg) = some (k, σ1) := e1
  have e2 : fX10_setNeighborhood σ1 (xs ((nI i) + (1 : Int32)).toNatClampNeg) = some (b, σ2) := e2
  unfold fL_case16 fL_law_L1129 fL_law_L2416
  rw [ck1 hi hL, e1, bd_some, ck1 hi hL, e2, bd_some, m_thrown, bd_some, if_pos ht]
  by_cases c : k = 0
  · rw [if_pos c, if_pos (hb c)]; exact K _ hr
  · rw [if_neg c]; exact K _ hr
theorem k_17 {L : Nat} {xs : Nat → Int32} {r28 : Mem → Int32 → Option Unit} {B i : Nat} {σ : Mem} (hB : B ≤ 18000) (h : RR B σ σ) (hi : i + 5 ≤ L) (hL : L ≤ 3000) (K : ∀ σ' : Mem, RR (B + 30) σ' σ' → r28 σ' (nI i + (5 : Int32)) = some ()) : fL_case17 L xs r28 σ (nI i) = some () := by
  obtain ⟨k, σ1, b, σ2, e1, e2, hr, ht, hb⟩ := sim_glue (S_setTenure (xs ((nI i) + (1 : Int32)).toNatClampNeg)) (fun h => fq_wL_setTenure h) (fun _ _ _ _ => by omega) (fun h => fq_X10_setTenure h) (fun _ _ _ => by omega) hB h
  have e1 : wL_setTenure σ (xs ((nI i) + (1 : Int32)).toNatClampNeg) = some (k, σ1) := e1
  have e2 : fX10_setTenure σ1 (xs ((nI i) + (1 : Int32)).toNatClampNeg) = some (b, σ2) := e2
  unfold fL_case17 fL_law_L1185 fL_law_L2416
  rw [ck1 hi hL, e1, bd_some, ck1 hi hL, e2, bd_some, m_thrown, bd_some, if_pos ht]
  by_cases c : k = 0
  · rw [if_pos c, if_pos (hb c)]; exact K _ hr
  · rw [if_neg c]; exact K _ hr
theorem k_18 {L : Nat} {xs : Nat → Int32} {r28 : Mem → Int32 → Option Unit} {B i : Nat} {σ : Mem} (hB : B ≤ 18000) (h : RR B σ σ) (hi : i + 5 ≤ L) (hL : L ≤ 3000) (K : ∀ σ' : Mem, RR (B + 30) σ' σ' → r28 σ' (nI i + (5 : Int32)) = some ()) : fL_case18 L xs r28 σ (nI i) = some () := by
  obtain ⟨k, σ1, b, σ2, e1, e2, hr, ht, hb⟩ := sim_glue (S_setPatience (xs ((nI i) + (1 : Int32)).toNatClampNeg)) (fun h => fq_wL_setPatience h) (fun _ _ _ _ => by omega) (fun h => fq_X10_setPatience h) (fun _ _ _ => by omega) hB h
  have e1 : wL_setPatience σ (xs ((nI i) + (1 : Int32)).toNatClampNeg) = some (k, σ1) := e1
  have e2 : fX10_setPatience σ1 (xs ((nI i) + (1 : Int32)).toNatClampNeg) = some (b, σ2) := e2
  unfold fL_case18 fL_law_L1241 fL_law_L2416
  rw [ck1 hi hL, e1, bd_some, ck1 hi hL, e2, bd_some, m_thrown, bd_some, if_pos ht]
  by_cases c : k = 0
  · rw [if_pos c, if_pos (hb c)]; exact K _ hr
  · rw [if_neg c]; exact K _ hr
theorem k_19 {L : Nat} {xs : Nat → Int32} {r28 : Mem → Int32 → Option Unit} {B i : Nat} {σ : Mem} (hB : B ≤ 18000) (h : RR B σ σ) (hi : i + 5 ≤ L) (hL : L ≤ 3000) (K : ∀ σ' : Mem, RR (B + 30) σ' σ' → r28 σ' (nI i + (5 : Int32)) = some ()) : fL_case19 L xs r28 σ (nI i) = some () := by
  obtain ⟨k, σ1, b, σ2, e1, e2, hr, ht, hb⟩ := sim_glue (S_setSeed (xs ((nI i) + (1 : Int32)).toNatClampNeg)) (fun h => fq_wL_setSeed h) (fun _ _ _ _ => by omega) (fun h => fq_X10_setSeed h) (fun _ _ _ => by omega) hB h
  have e1 : wL_setSeed σ (xs ((nI i) + (1 : Int32)).toNatClampNeg) = some (k, σ1) := e1
  have e2 : fX10_setSeed σ1 (xs ((nI i) + (1 : Int32)).toNatClampNeg) = some (b, σ2) := e2
  unfold fL_case19 fL_law_L1297 fL_law_L2416
  rw [ck1 hi hL, e1, bd_some, ck1 hi hL, e2, bd_some, m_thrown, bd_some, if_pos ht]
  by_cases c : k = 0
  · rw [if_pos c, if_pos (hb c)]; exact K _ hr
  · rw [if_neg c]; exact K _ hr
theorem k_21 {L : Nat} {xs : Nat → Int32} {r28 : Mem → Int32 → Option Unit} {B i : Nat} {σ : Mem} (hB : B ≤ 18000) (h : RR B σ σ) (hi : i + 5 ≤ L) (hL : L ≤ 3000) (K : ∀ σ' : Mem, RR (B + 30) σ' σ' → r28 σ' (nI i + (5 : Int32)) = some ()) : fL_case21 L xs r28 σ (nI i) = some () := by
  obtain ⟨k, σ1, b, σ2, e1, e2, hr, ht, hb⟩ := sim_glue (S_move (xs ((nI i) + (1 : Int32)).toNatClampNeg) (xs ((nI i) + (2 : Int32)).toNatClampNeg)) (fun h => fq_wL_move h) (fun _ _ _ _ => by omega) (fun h => fq_X10_move h) (fun _ _ _ => by omega) hB h
  have e1 : wL_move σ (xs ((nI i) + (1 : Int32)).toNatClampNeg) (xs ((nI i) + (2 : Int32)).toNatClampNeg) = some (k, σ1) := e1
  have e2 : fX10_move σ1 (xs ((nI i) + (1 : Int32)).toNatClampNeg) (xs ((nI i) + (2 : Int32)).toNatClampNeg) = some (b, σ2) := e2
  unfold fL_case21 fL_law_L1406 fL_law_L2416
  rw [ck1 hi hL, ck2 hi hL, e1, bd_some, ck1 hi hL, ck2 hi hL, e2, bd_some, m_thrown, bd_some, if_pos ht]
  by_cases c : k = 0
  · rw [if_pos c, if_pos (hb c)]; exact K _ hr
  · rw [if_neg c]; exact K _ hr
theorem k_22 {L : Nat} {xs : Nat → Int32} {r28 : Mem → Int32 → Option Unit} {B i : Nat} {σ : Mem} (hB : B ≤ 18000) (h : RR B σ σ) (hi : i + 5 ≤ L) (hL : L ≤ 3000) (K : ∀ σ' : Mem, RR (B + 30) σ' σ' → r28 σ' (nI i + (5 : Int32)) = some ()) : fL_case22 L xs r28 σ (nI i) = some () := by
  obtain ⟨k, σ1, b, σ2, e1, e2, hr, ht, hb⟩ := sim_glue (S_nextMove) (fun h => fq_wL_nextMove h) (fun _ _ _ _ => by omega) (fun h => fq_X10_nextMove h) (fun _ _ _ => by omega) hB h
  have e1 : wL_nextMove σ = some (k, σ1) := e1
  have e2 : fX10_nextMove σ1 = some (b, σ2) := e2
  unfold fL_case22 fL_law_L1450 fL_law_L2416
  rw [e1, bd_some, e2, bd_some, m_thrown, bd_some, if_pos ht]
  by_cases c : k = 0
  · rw [if_pos c, if_pos (hb c)]; exact K _ hr
  · rw [if_neg c]; exact K _ hr
theorem k_23 {L : Nat} {xs : Nat → Int32} {r28 : Mem → Int32 → Option Unit} {B i : Nat} {σ : Mem} (hB : B ≤ 18000) (h : RR B σ σ) (hi : i + 5 ≤ L) (hL : L ≤ 3000) (K : ∀ σ' : Mem, RR (B + 30) σ' σ' → r28 σ' (nI i + (5 : Int32)) = some ()) : fL_case23 L xs r28 σ (nI i) = some () := by
  obtain ⟨k, σ1, b, σ2, e1, e2, hr, ht, hb⟩ := sim_glue (S_isForbidden (xs ((nI i) + (1 : Int32)).toNatClampNeg) (xs ((nI i) + (2 : Int32)).toNatClampNeg)) (fun h => fq_wL_isForbidden h) (fun _ _ _ _ => by omega) (fun h => fq_X10_isForbidden h) (fun _ _ _ => by omega) hB h
  have e1 : wL_isForbidden σ (xs ((nI i) + (1 : Int32)).toNatClampNeg) (xs ((nI i) + (2 : Int32)).toNatClampNeg) = some (k, σ1) := e1
  have e2 : fX10_isForbidden σ1 (xs ((nI i) + (1 : Int32)).toNatClampNeg) (xs ((nI i) + (2 : Int32)).toNatClampNeg) = some (b, σ2) := e2
  unfold fL_case23
  rw [ck1 hi hL, ck2 hi hL, e1, bd_some, ck1 hi hL, ck2 hi hL, e2, bd_some, m_thrown, bd_some, if_pos ht]
  by_cases c : k = 0
  · rw [if_pos c]
    unfold fL_law_L1519 fL_law_L1525 fL_law_L2416
    rcases fb01 e2 with q | q
    · rw [if_pos q, if_pos ((hb c).trans q)]; exact K _ hr
    · rw [if_neg (by rw [q]; decide), if_pos ((hb c).trans q)]; exact K _ hr
  · rw [if_neg c]
    unfold fL_law_L1525 fL_law_L2416
    exact K _ hr
theorem k_24 {L : Nat} {xs : Nat → Int32} {r28 : Mem → Int32 → Option Unit} {B i : Nat} {σ : Mem} (hB : B ≤ 18000) (h : RR B σ σ) (hi : i + 5 ≤ L) (hL : L ≤ 3000) (K : ∀ σ' : Mem, RR (B + 30) σ' σ' → r28 σ' (nI i + (5 : Int32)) = some ()) : fL_case24 L xs r28 σ (nI i) = some () := by
  obtain ⟨k, σ1, σ2, e1, e2, hr⟩ := sim1_glue (S_isLocalOptimum) (fun h => fq_X9_isLocalOptimum h) (fun _ _ _ _ => by omega) (fun h => fq_X10_isLocalOptimum h) (fun _ _ _ => by omega) hB h
  unfold fL_case24 fL_law_L2416
  rw [e1, bd_some, e2, bd_some, if_pos rfl]
  exact K _ hr
theorem k_25 {L : Nat} {xs : Nat → Int32} {r28 : Mem → Int32 → Option Unit} {B i : Nat} {σ : Mem} (hB : B ≤ 18000) (h : RR B σ σ) (hi : i + 5 ≤ L) (hL : L ≤ 3000) (K : ∀ σ' : Mem, RR (B + 30) σ' σ' → r28 σ' (nI i + (5 : Int32)) = some ()) : fL_case25 L xs r28 σ (nI i) = some () := by
  obtain ⟨k, σ1, b, σ2, e1, e2, hr, ht, hb⟩ := sim_glue (S_step) (fun h => fq_wL_step h) (fun _ _ _ _ => by omega) (fun h => fq_X10_step h) (fun _ _ _ => by omega) hB h
  have e1 : wL_step σ = some (k, σ1) := e1
  have e2 : fX10_step σ1 = some (b, σ2) := e2
  unfold fL_case25 fL_law_L1582 fL_law_L2416
  rw [e1, bd_some, e2, bd_some, m_thrown, bd_some, if_pos ht]
  by_cases c : k = 0
  · rw [if_pos c, if_pos (hb c)]; exact K _ hr
  · rw [if_neg c]; exact K _ hr
theorem k_26 {L : Nat} {xs : Nat → Int32} {r28 : Mem → Int32 → Option Unit} {B i : Nat} {σ : Mem} (hB : B ≤ 18000) (h : RR B σ σ) (hi : i + 5 ≤ L) (hL : L ≤ 3000) (K : ∀ σ' : Mem, RR (B + 30) σ' σ' → r28 σ' (nI i + (5 : Int32)) = some ()) : fL_case26 L xs r28 σ (nI i) = some () := by
  obtain ⟨k, σ1, b, σ2, e1, e2, hr, ht, hb⟩ := sim_glue (S_run (xs ((nI i) + (1 : Int32)).toNatClampNeg)) (fun h => fq_wL_run h) (fun _ _ _ _ => by omega) (fun h => fq_X10_run h) (fun _ _ _ => by omega) hB h
  have e1 : wL_run σ (xs ((nI i) + (1 : Int32)).toNatClampNeg) = some (k, σ1) := e1
  have e2 : fX10_run σ1 (xs ((nI i) + (1 : Int32)).toNatClampNeg) = some (b, σ2) := e2
  unfold fL_case26 fL_law_L1638 fL_law_L2416
  rw [ck1 hi hL, e1, bd_some, ck1 hi hL, e2, bd_some, m_thrown, bd_some, if_pos ht]
  by_cases c : k = 0
  · rw [if_pos c, if_pos (hb c)]; exact K _ hr
  · rw [if_neg c]; exact K _ hr
theorem k_27 {L : Nat} {xs : Nat → Int32} {r28 : Mem → Int32 → Option Unit} {B i : Nat} {σ : Mem} (hB : B ≤ 18000) (h : RR B σ σ) (hi : i + 5 ≤ L) (hL : L ≤ 3000) (K : ∀ σ' : Mem, RR (B + 30) σ' σ' → r28 σ' (nI i + (5 : Int32)) = some ()) : fL_case27 L xs r28 σ (nI i) = some () := by
  obtain ⟨k, σ1, σ2, e1, e2, hr⟩ := sim1_glue (S_descend) (fun h => fq_X9_descend h) (fun _ _ _ _ => by omega) (fun h => fq_X10_descend h) (fun _ _ _ => by omega) hB h
  unfold fL_case27 fL_law_L2416
  rw [e1, bd_some, e2, bd_some, if_pos rfl]
  exact K _ hr
theorem k_28 {L : Nat} {xs : Nat → Int32} {r28 : Mem → Int32 → Option Unit} {B i : Nat} {σ : Mem} (hB : B ≤ 18000) (h : RR B σ σ) (hi : i + 5 ≤ L) (hL : L ≤ 3000) (K : ∀ σ' : Mem, RR (B + 30) σ' σ' → r28 σ' (nI i + (5 : Int32)) = some ()) : fL_case28 L xs r28 σ (nI i) = some () := by
  obtain ⟨k, σ1, σ2, e1, e2, hr⟩ := sim1_glue (S_restart) (fun h => fq_X9_restart h) (fun _ _ _ _ => by omega) (fun h => fq_X10_restart h) (fun _ _ _ => by omega) hB h
  unfold fL_case28 fL_law_L2416
  rw [e1, bd_some, e2, bd_some, if_pos rfl]
  exact K _ hr
theorem k_29 {L : Nat} {xs : Nat → Int32} {r28 : Mem → Int32 → Option Unit} {B i : Nat} {σ : Mem} (hB : B ≤ 18000) (h : RR B σ σ) (hi : i + 5 ≤ L) (hL : L ≤ 3000) (K : ∀ σ' : Mem, RR (B + 30) σ' σ' → r28 σ' (nI i + (5 : Int32)) = some ()) : fL_case29 L xs r28 σ (nI i) = some () := by
  obtain ⟨k, σ1, b, σ2, e1, e2, hr, ht, hb⟩ := sim_glue (S_search (xs ((nI i) + (1 : Int32)).toNatClampNeg)) (fun h => fq_wL_search h) (fun _ _ _ _ => by omega) (fun h => fq_X10_search h) (fun _ _ _ => by omega) hB h
  have e1 : wL_search σ (xs ((nI i) + (1 : Int32)).toNatClampNeg) = some (k, σ1) := e1
  have e2 : fX10_search σ1 (xs ((nI i) + (1 : Int32)).toNatClampNeg) = some (b, σ2) := e2
  unfold fL_case29 fL_law_L1720 fL_law_L2416
  rw [ck1 hi hL, e1, bd_some, ck1 hi hL, e2, bd_some, m_thrown, bd_some, if_pos ht]
  by_cases c : k = 0
  · rw [if_pos c, if_pos (hb c)]; exact K _ hr
  · rw [if_neg c]; exact K _ hr
theorem k_30 {L : Nat} {xs : Nat → Int32} {r28 : Mem → Int32 → Option Unit} {B i : Nat} {σ : Mem} (hB : B ≤ 18000) (h : RR B σ σ) (hi : i + 5 ≤ L) (hL : L ≤ 3000) (K : ∀ σ' : Mem, RR (B + 30) σ' σ' → r28 σ' (nI i + (5 : Int32)) = some ()) : fL_case30 L xs r28 σ (nI i) = some () := by
  obtain ⟨k, σ1, σ2, e1, e2, hr⟩ := sim1_glue (S_logSize) (fun h => fq_X9_logSize h) (fun _ _ _ _ => by omega) (fun h => fq_X10_logSize h) (fun _ _ _ => by omega) hB h
  unfold fL_case30 fL_law_L2416
  rw [e1, bd_some, e2, bd_some, if_pos rfl]
  exact K _ hr
theorem k_31 {L : Nat} {xs : Nat → Int32} {r28 : Mem → Int32 → Option Unit} {B i : Nat} {σ : Mem} (hB : B ≤ 18000) (h : RR B σ σ) (hi : i + 5 ≤ L) (hL : L ≤ 3000) (K : ∀ σ' : Mem, RR (B + 30) σ' σ' → r28 σ' (nI i + (5 : Int32)) = some ()) : fL_case31 L xs r28 σ (nI i) = some () := by
  obtain ⟨k, σ1, b, σ2, e1, e2, hr, ht, hb⟩ := sim_glue (S_log (xs ((nI i) + (1 : Int32)).toNatClampNeg) (xs ((nI i) + (2 : Int32)).toNatClampNeg)) (fun h => fq_wL_log h) (fun _ _ _ _ => by omega) (fun h => fq_X10_log h) (fun _ _ _ => by omega) hB h
  have e1 : wL_log σ (xs ((nI i) + (1 : Int32)).toNatClampNeg) (xs ((nI i) + (2 : Int32)).toNatClampNeg) = some (k, σ1) := e1
  have e2 : fX10_log σ1 (xs ((nI i) + (1 : Int32)).toNatClampNeg) (xs ((nI i) + (2 : Int32)).toNatClampNeg) = some (b, σ2) := e2
  unfold fL_case31 fL_law_L1801 fL_law_L2416
  rw [ck1 hi hL, ck2 hi hL, e1, bd_some, ck1 hi hL, ck2 hi hL, e2, bd_some, m_thrown, bd_some, if_pos ht]
  by_cases c : k = 0
  · rw [if_pos c, if_pos (hb c)]; exact K _ hr
  · rw [if_neg c]; exact K _ hr
theorem k_32 {L : Nat} {xs : Nat → Int32} {r28 : Mem → Int32 → Option Unit} {B i : Nat} {σ : Mem} (hB : B ≤ 18000) (h : RR B σ σ) (hi : i + 5 ≤ L) (hL : L ≤ 3000) (K : ∀ σ' : Mem, RR (B + 30) σ' σ' → r28 σ' (nI i + (5 : Int32)) = some ()) : fL_case32 L xs r28 σ (nI i) = some () := by
  obtain ⟨k, σ1, b, σ2, e1, e2, hr, ht, hb⟩ := share_glue hB h
  unfold fL_case32 fL_law_L1866 fL_law_L2416
  rw [e1, bd_some, e2, bd_some, m_thrown, bd_some, if_pos ht]
  by_cases c : k = 0
  · rw [if_pos c, if_pos (hb c)]; exact K _ hr
  · rw [if_neg c]; exact K _ hr
theorem k_33 {L : Nat} {xs : Nat → Int32} {r28 : Mem → Int32 → Option Unit} {B i : Nat} {σ : Mem} (hB : B ≤ 18000) (h : RR B σ σ) (hi : i + 5 ≤ L) (hL : L ≤ 3000) (K : ∀ σ' : Mem, RR (B + 30) σ' σ' → r28 σ' (nI i + (5 : Int32)) = some ()) : fL_case33 L xs r28 σ (nI i) = some () := by
  obtain ⟨k, σ1, b, σ2, e1, e2, hr, ht, hb⟩ := sim_glue (S_optimum) (fun h => fq_wL_optimum h) (fun _ _ _ _ => by omega) (fun h => fq_X10_optimum h) (fun _ _ _ => by omega) hB h
  have e1 : wL_optimum σ = some (k, σ1) := e1
  have e2 : fX10_optimum σ1 = some (b, σ2) := e2
  unfold fL_case33 fL_law_L1910 fL_law_L2416
  rw [e1, bd_some, e2, bd_some, m_thrown, bd_some, if_pos ht]
  by_cases c : k = 0
  · rw [if_pos c, if_pos (hb c)]; exact K _ hr
  · rw [if_neg c]; exact K _ hr
theorem k_34 {L : Nat} {xs : Nat → Int32} {r28 : Mem → Int32 → Option Unit} {B i : Nat} {σ : Mem} (hB : B ≤ 18000) (h : RR B σ σ) (hi : i + 5 ≤ L) (hL : L ≤ 3000) (K : ∀ σ' : Mem, RR (B + 30) σ' σ' → r28 σ' (nI i + (5 : Int32)) = some ()) : fL_case34 L xs r28 σ (nI i) = some () := by
  obtain ⟨k, σ1, b, σ2, e1, e2, hr, ht, hb⟩ := sim_glue (S_optima) (fun h => fq_wL_optima h) (fun _ _ _ _ => by omega) (fun h => fq_X10_optima h) (fun _ _ _ => by omega) hB h
  have e1 : wL_optima σ = some (k, σ1) := e1
  have e2 : fX10_optima σ1 = some (b, σ2) := e2
  unfold fL_case34 fL_law_L1954 fL_law_L2416
  rw [e1, bd_some, e2, bd_some, m_thrown, bd_some, if_pos ht]
  by_cases c : k = 0
  · rw [if_pos c, if_pos (hb c)]; exact K _ hr
  · rw [if_neg c]; exact K _ hr
theorem k_35 {L : Nat} {xs : Nat → Int32} {r28 : Mem → Int32 → Option Unit} {B i : Nat} {σ : Mem} (hB : B ≤ 18000) (h : RR B σ σ) (hi : i + 5 ≤ L) (hL : L ≤ 3000) (K : ∀ σ' : Mem, RR (B + 30) σ' σ' → r28 σ' (nI i + (5 : Int32)) = some ()) : fL_case35 L xs r28 σ (nI i) = some () := by
  obtain ⟨k, σ1, b, σ2, e1, e2, hr, ht, hb⟩ := sim_glue (S_optimalValue (xs ((nI i) + (1 : Int32)).toNatClampNeg)) (fun h => fq_wL_optimalValue h) (fun _ _ _ _ => by omega) (fun h => fq_X10_optimalValue h) (fun _ _ _ => by omega) hB h
  have e1 : wL_optimalValue σ (xs ((nI i) + (1 : Int32)).toNatClampNeg) = some (k, σ1) := e1
  have e2 : fX10_optimalValue σ1 (xs ((nI i) + (1 : Int32)).toNatClampNeg) = some (b, σ2) := e2
  unfold fL_case35 fL_law_L2010 fL_law_L2416
  rw [ck1 hi hL, e1, bd_some, ck1 hi hL, e2, bd_some, m_thrown, bd_some, if_pos ht]
  by_cases c : k = 0
  · rw [if_pos c, if_pos (hb c)]; exact K _ hr
  · rw [if_neg c]; exact K _ hr
theorem k_36 {L : Nat} {xs : Nat → Int32} {r28 : Mem → Int32 → Option Unit} {B i : Nat} {σ : Mem} (hB : B ≤ 18000) (h : RR B σ σ) (hi : i + 5 ≤ L) (hL : L ≤ 3000) (K : ∀ σ' : Mem, RR (B + 30) σ' σ' → r28 σ' (nI i + (5 : Int32)) = some ()) : fL_case36 L xs r28 σ (nI i) = some () := by
  obtain ⟨k, σ1, b, σ2, e1, e2, hr, ht, hb⟩ := sim_glue (S_worst) (fun h => fq_wL_worst h) (fun _ _ _ _ => by omega) (fun h => fq_X10_worst h) (fun _ _ _ => by omega) hB h
  have e1 : wL_worst σ = some (k, σ1) := e1
  have e2 : fX10_worst σ1 = some (b, σ2) := e2
  unfold fL_case36 fL_law_L2054 fL_law_L2416
  rw [e1, bd_some, e2, bd_some, m_thrown, bd_some, if_pos ht]
  by_cases c : k = 0
  · rw [if_pos c, if_pos (hb c)]; exact K _ hr
  · rw [if_neg c]; exact K _ hr
theorem k_37 {L : Nat} {xs : Nat → Int32} {r28 : Mem → Int32 → Option Unit} {B i : Nat} {σ : Mem} (hB : B ≤ 18000) (h : RR B σ σ) (hi : i + 5 ≤ L) (hL : L ≤ 3000) (K : ∀ σ' : Mem, RR (B + 30) σ' σ' → r28 σ' (nI i + (5 : Int32)) = some ()) : fL_case37 L xs r28 σ (nI i) = some () := by
  obtain ⟨k, σ1, b, σ2, e1, e2, hr, ht, hb⟩ := sim_glue (S_unavoidable) (fun h => fq_wL_unavoidable h) (fun _ _ _ _ => by omega) (fun h => fq_X10_unavoidable h) (fun _ _ _ => by omega) hB h
  have e1 : wL_unavoidable σ = some (k, σ1) := e1
  have e2 : fX10_unavoidable σ1 = some (b, σ2) := e2
  unfold fL_case37 fL_law_L2098 fL_law_L2416
  rw [e1, bd_some, e2, bd_some, m_thrown, bd_some, if_pos ht]
  by_cases c : k = 0
  · rw [if_pos c, if_pos (hb c)]; exact K _ hr
  · rw [if_neg c]; exact K _ hr
theorem k_38 {L : Nat} {xs : Nat → Int32} {r28 : Mem → Int32 → Option Unit} {B i : Nat} {σ : Mem} (hB : B ≤ 18000) (h : RR B σ σ) (hi : i + 5 ≤ L) (hL : L ≤ 3000) (K : ∀ σ' : Mem, RR (B + 30) σ' σ' → r28 σ' (nI i + (5 : Int32)) = some ()) : fL_case38 L xs r28 σ (nI i) = some () := by
  obtain ⟨k, σ1, b, σ2, e1, e2, hr, ht, hb⟩ := sim_glue (S_append (((xs ((nI i) + (1 : Int32)).toNatClampNeg).toUInt32 % 65536).toInt32)) (fun h => fq_wL_append h) (fun _ _ _ _ => by omega) (fun h => fq_X10_append h) (fun _ _ _ => by omega) hB h
  have e1 : wL_append σ (((xs ((nI i) + (1 : Int32)).toNatClampNeg).toUInt32 % 65536).toInt32) = some (k, σ1) := e1
  have e2 : fX10_append σ1 (((xs ((nI i) + (1 : Int32)).toNatClampNeg).toUInt32 % 65536).toInt32) = some (b, σ2) := e2
  unfold fL_case38 fL_law_L2156 fL_law_L2416
  rw [ck1 hi hL, e1, bd_some, ck1 hi hL, e2, bd_some, m_thrown, bd_some, if_pos ht]
  by_cases c : k = 0
  · rw [if_pos c, if_pos (hb c)]; exact K _ hr
  · rw [if_neg c]; exact K _ hr
theorem k_39 {L : Nat} {xs : Nat → Int32} {r28 : Mem → Int32 → Option Unit} {B i : Nat} {σ : Mem} (hB : B ≤ 18000) (h : RR B σ σ) (hi : i + 5 ≤ L) (hL : L ≤ 3000) (S_read : Sim wL_read fX10_read) (K : ∀ σ' : Mem, RR (B + 30) σ' σ' → r28 σ' (nI i + (5 : Int32)) = some ()) : fL_case39 L xs r28 σ (nI i) = some () := by
  obtain ⟨k, σ1, b, σ2, e1, e2, hr, ht, hb⟩ := sim_glue (S_read) (fun h => fq_wL_read h) (fun _ _ _ _ => by omega) (fun h => fq_X10_read h) (fun _ _ _ => by omega) hB h
  have e1 : wL_read σ = some (k, σ1) := e1
  have e2 : fX10_read σ1 = some (b, σ2) := e2
  unfold fL_case39 fL_law_L2200 fL_law_L2416
  rw [e1, bd_some, e2, bd_some, m_thrown, bd_some, if_pos ht]
  by_cases c : k = 0
  · rw [if_pos c, if_pos (hb c)]; exact K _ hr
  · rw [if_neg c]; exact K _ hr
theorem k_40 {L : Nat} {xs : Nat → Int32} {r28 : Mem → Int32 → Option Unit} {B i : Nat} {σ : Mem} (hB : B ≤ 18000) (h : RR B σ σ) (hi : i + 5 ≤ L) (hL : L ≤ 3000) (K : ∀ σ' : Mem, RR (B + 30) σ' σ' → r28 σ' (nI i + (5 : Int32)) = some ()) : fL_case40 L xs r28 σ (nI i) = some () := by
  obtain ⟨k, σ1, b, σ2, e1, e2, hr, ht, hb⟩ := sim_glue (S_errorPosition) (fun h => fq_wL_errorPosition h) (fun _ _ _ _ => by omega) (fun h => fq_X10_errorPosition h) (fun _ _ _ => by omega) hB h
  have e1 : wL_errorPosition σ = some (k, σ1) := e1
  have e2 : fX10_errorPosition σ1 = some (b, σ2) := e2
  unfold fL_case40 fL_law_L2244 fL_law_L2416
  rw [e1, bd_some, e2, bd_some, m_thrown, bd_some, if_pos ht]
  by_cases c : k = 0
  · rw [if_pos c, if_pos (hb c)]; exact K _ hr
  · rw [if_neg c]; exact K _ hr
theorem k_41 {L : Nat} {xs : Nat → Int32} {r28 : Mem → Int32 → Option Unit} {B i : Nat} {σ : Mem} (hB : B ≤ 18000) (h : RR B σ σ) (hi : i + 5 ≤ L) (hL : L ≤ 3000) (K : ∀ σ' : Mem, RR (B + 30) σ' σ' → r28 σ' (nI i + (5 : Int32)) = some ()) : fL_case41 L xs r28 σ (nI i) = some () := by
  obtain ⟨k, σ1, b, σ2, e1, e2, hr, ht, hb⟩ := sim_glue (S_describe (xs ((nI i) + (1 : Int32)).toNatClampNeg) (xs ((nI i) + (2 : Int32)).toNatClampNeg)) (fun h => fq_wL_describe h) (fun _ _ _ _ => by omega) (fun h => fq_X10_describe h) (fun _ _ _ => by omega) hB h
  have e1 : wL_describe σ (xs ((nI i) + (1 : Int32)).toNatClampNeg) (xs ((nI i) + (2 : Int32)).toNatClampNeg) = some (k, σ1) := e1
  have e2 : fX10_describe σ1 (xs ((nI i) + (1 : Int32)).toNatClampNeg) (xs ((nI i) + (2 : Int32)).toNatClampNeg) = some (b, σ2) := e2
  unfold fL_case41 fL_law_L2312 fL_law_L2416
  rw [ck1 hi hL, ck2 hi hL, e1, bd_some, ck1 hi hL, ck2 hi hL, e2, bd_some, m_thrown, bd_some, if_pos ht]
  by_cases c : k = 0
  · rw [if_pos c, if_pos (hb c)]; exact K _ hr
  · rw [if_neg c]; exact K _ hr
theorem k_42 {L : Nat} {xs : Nat → Int32} {r28 : Mem → Int32 → Option Unit} {B i : Nat} {σ : Mem} (hB : B ≤ 18000) (h : RR B σ σ) (hi : i + 5 ≤ L) (hL : L ≤ 3000) (K : ∀ σ' : Mem, RR (B + 30) σ' σ' → r28 σ' (nI i + (5 : Int32)) = some ()) : fL_case42 L xs r28 σ (nI i) = some () := by
  obtain ⟨k, σ1, b, σ2, e1, e2, hr, ht, hb⟩ := sim_glue (S_undo) (fun h => fq_wL_undo h) (fun _ _ _ _ => by omega) (fun h => fq_X10_undo h) (fun _ _ _ => by omega) hB h
  have e1 : wL_undo σ = some (k, σ1) := e1
  have e2 : fX10_undo σ1 = some (b, σ2) := e2
  unfold fL_case42 fL_law_L2356 fL_law_L2416
  rw [e1, bd_some, e2, bd_some, m_thrown, bd_some, if_pos ht]
  by_cases c : k = 0
  · rw [if_pos c, if_pos (hb c)]; exact K _ hr
  · rw [if_neg c]; exact K _ hr
theorem k_43 {L : Nat} {xs : Nat → Int32} {r28 : Mem → Int32 → Option Unit} {B i : Nat} {σ : Mem} (hB : B ≤ 18000) (h : RR B σ σ) (hi : i + 5 ≤ L) (hL : L ≤ 3000) (K : ∀ σ' : Mem, RR (B + 30) σ' σ' → r28 σ' (nI i + (5 : Int32)) = some ()) : fL_case43 L xs r28 σ (nI i) = some () := by
  obtain ⟨k, σ1, σ2, e1, e2, hr⟩ := sim1_glue (S_save) (fun h => fq_X9_save h) (fun _ _ _ _ => by omega) (fun h => fq_X10_save h) (fun _ _ _ => by omega) hB h
  unfold fL_case43 fL_law_L2416
  rw [e1, bd_some, e2, bd_some, if_pos rfl]
  exact K _ hr
theorem k_44 {L : Nat} {xs : Nat → Int32} {r28 : Mem → Int32 → Option Unit} {B i : Nat} {σ : Mem} (hB : B ≤ 18000) (h : RR B σ σ) (hi : i + 5 ≤ L) (hL : L ≤ 3000) (K : ∀ σ' : Mem, RR (B + 30) σ' σ' → r28 σ' (nI i + (5 : Int32)) = some ()) : fL_case44 L xs r28 σ (nI i) = some () := by
  obtain ⟨k, σ1, b, σ2, e1, e2, hr, ht, hb⟩ := sim_glue (S_restore) (fun h => fq_wL_restore h) (fun _ _ _ _ => by omega) (fun h => fq_X10_restore h) (fun _ _ _ => by omega) hB h
  have e1 : wL_restore σ = some (k, σ1) := e1
  have e2 : fX10_restore σ1 = some (b, σ2) := e2
  unfold fL_case44 fL_law_L2413 fL_law_L2416
  rw [e1, bd_some, e2, bd_some, m_thrown, bd_some, if_pos ht]
  by_cases c : k = 0
  · rw [if_pos c, if_pos (hb c)]; exact K _ hr
  · rw [if_neg c]; exact K _ hr
theorem k_927 {L : Nat} {xs : Nat → Int32} {r28 : Mem → Int32 → Option Unit} {B i : Nat} {σ : Mem} (hB : B ≤ 18000) (h : RR B σ σ) (hi : i + 5 ≤ L) (hL : L ≤ 3000) (a s : Int32) (K : ∀ σ' : Mem, RR (B + 30) σ' σ' → r28 σ' (nI i + (5 : Int32)) = some ()) : (bd (wL_violation σ a s) fun v130 σ130 => fL_law_L927 L xs r28 σ130 (nI i) v130 a s) = some () := by
  obtain ⟨k, σ1, b, σ2, e1, e2, hr, ht, hb⟩ := sim_glue (S_violation a s) (fun h => fq_wL_violation h) (fun _ _ _ _ => by omega) (fun h => fq_X10_violation h) (fun _ _ _ => by omega) hB h
  have e1 : wL_violation σ a s = some (k, σ1) := e1
  have e2 : fX10_violation σ1 a s = some (b, σ2) := e2
  rw [e1, bd_some]
  unfold fL_law_L927 fL_law_L960 fL_law_L2416
  rw [e2, bd_some, m_thrown, bd_some, if_pos ht]
  by_cases c : k = 0
  · rw [if_pos c, if_pos (hb c)]; exact K _ hr
  · rw [if_neg c]; exact K _ hr
theorem k_12 {L : Nat} {xs : Nat → Int32} {r28 : Mem → Int32 → Option Unit} {B i : Nat} {σ : Mem} (hB : B ≤ 18000) (h : RR B σ σ) (hi : i + 5 ≤ L) (hL : L ≤ 3000) (K : ∀ σ' : Mem, RR (B + 30) σ' σ' → r28 σ' (nI i + (5 : Int32)) = some ()) : fL_case12 L xs r28 σ (nI i) = some () := by
  unfold fL_case12 fL_law_L900
  simp only [ck1 hi hL, ck2 hi hL]
  by_cases c : (xs (nI i + (2 : Int32)).toNatClampNeg) = 0
  · simp only [c, if_true]
    exact k_927 hB h hi hL (xs (nI i + (1 : Int32)).toNatClampNeg) 0 K
  · rw [if_neg c]
    simp only [if_neg c]
    exact k_927 hB h hi hL (xs (nI i + (1 : Int32)).toNatClampNeg) 1 K
theorem k_1333 {L : Nat} {xs : Nat → Int32} {r28 : Mem → Int32 → Option Unit} {B i : Nat} {σ : Mem} (hB : B ≤ 18000) (h : RR B σ σ) (s : Int32) (K : ∀ σ' : Mem, RR (B + 30) σ' σ' → r28 σ' (nI i + (5 : Int32)) = some ()) : (bd (fX9_moves σ s) fun v127 σ127 => fL_law_L1333 L xs r28 σ127 (nI i) v127 s) = some () := by
  obtain ⟨k, σ1, σ2, e1, e2, hr⟩ := sim1_glue (S_moves s) (fun h => fq_X9_moves h) (fun _ _ _ _ => by omega) (fun h => fq_X10_moves h) (fun _ _ _ => by omega) hB h
  have e1 : fX9_moves σ s = some (k, σ1) := e1
  have e2 : fX10_moves σ1 s = some (k, σ2) := e2
  rw [e1, bd_some]
  unfold fL_law_L1333 fL_law_L2416
  rw [e2, bd_some, if_pos rfl]
  exact K _ hr
theorem k_20 {L : Nat} {xs : Nat → Int32} {r28 : Mem → Int32 → Option Unit} {B i : Nat} {σ : Mem} (hB : B ≤ 18000) (h : RR B σ σ) (hi : i + 5 ≤ L) (hL : L ≤ 3000) (K : ∀ σ' : Mem, RR (B + 30) σ' σ' → r28 σ' (nI i + (5 : Int32)) = some ()) : fL_case20 L xs r28 σ (nI i) = some () := by
  unfold fL_case20 fL_law_L1315
  simp only [ck1 hi hL]
  by_cases c : (xs (nI i + (1 : Int32)).toNatClampNeg) = 0
  · simp only [c, if_true]
    exact k_1333 hB h 0 K
  · rw [if_neg c]
    simp only [if_neg c]
    exact k_1333 hB h 1 K
