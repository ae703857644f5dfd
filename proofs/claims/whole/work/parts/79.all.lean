/-! PURE, 39: what is asked of all combinations -/
theorem R0_su {B : Nat} {p : Nat → Nat → Int32} {n k : Nat} {bs : Nat → Int32} {U : Nat → Nat → Nat} {it : Nat} {σ τ σ' : Mem} {W : Nat → Nat → Prop} (h : R0 B p n k bs U it σ τ) (a : Ag W σ σ') (s : ∀ c i, c < 124 → ¬ (c = 8 ∨ c = 86 ∨ c = 98 ∨ 100 ≤ c ∧ c < 104 ∨ c = 113 ∨ c = 114 ∨ c = 115 ∨ c = 122 ∨ c = 123) → ¬ W c i) (hs : suR p n k σ') : R0 B p n k bs U it σ' τ := by
  obtain ⟨h0, h1, h2, h3, h4, h5, h6, h7, h8, h9, hA, -⟩ := h
  have a' : Ag Wn τ τ := ag_r
  exact ⟨h0, prb_tr h1 a (fun _ _ _ => s _ _ (by omega) (by omega)) a' (fun _ _ _ => by omega), bst_tr h2 a (fun _ _ _ => s _ _ (by omega) (by omega)) a' (fun _ _ _ => by omega), h3, cou_tr h4 a (fun _ _ _ => s _ _ (by omega) (by omega)) a' (fun _ _ _ => by omega), stt_tr h5 a (fun _ _ _ => s _ _ (by omega) (by omega)) a' (fun _ _ _ => by omega), ban_tr h6 a (fun _ _ _ => s _ _ (by omega) (by omega)) a' (fun _ _ _ => by omega), lgR_tr h7 a (fun _ _ _ => s _ _ (by omega) (by omega)) a' (fun _ _ _ => by omega), hiR_tr h8 a (fun _ _ _ => s _ _ (by omega) (by omega)) a' (fun _ _ _ => by omega), saR_tr h9 a (fun _ _ _ => s _ _ (by omega) (by omega)) a' (fun _ _ _ => by omega), teR_tr hA a (fun _ _ _ => s _ _ (by omega) (by omega)) a' (fun _ _ _ => by omega), hs⟩
/-- what both sides find -/
theorem all_R {B : Nat} {p : Nat → Nat → Int32} {n k : Nat} {bs : Nat → Int32} {U : Nat → Nat → Nat} {it : Nat} {σ τ : Mem} (h : R0 B p n k bs U it σ τ) : (∃ σ' τ', fX9_exploreAll σ = some (.inl (), σ') ∧ fX10_findsAll τ = some (1, τ') ∧ R0 B p n k bs U it σ' τ ∧ pst n k σ' τ') ∨ (fX9_exploreAll σ = some (.inr "java/lang/IllegalStateException", σ) ∧ fX10_findsAll τ = some (0, τ)) := by
  have hv := h.2.1.1
  have hx := h.2.1.2.1
  have hm := h.2.1.2.2.1
  have hb := prd_b (fun u => (sz_8 hv u).2) n
  have hb2 : 8 ^ n ≤ 8 ^ 10 := Nat.pow_le_pow_right (by omega) hv.1
  by_cases c : prd (sz p n) n ≤ 5000
  · left
    have c' : nI (prd (sz p n) n) ≤ (5000 : Int32) := (le_i (b := 5000) (by omega) (by omega)).2 c
    rcases h.2.2.2.2.2.2.2.2.2.2.2 with hs | hs
    · obtain ⟨σ', e1, e2, e3⟩ := exp_su hv c hx τ hm
      rcases e3 with e3 | e3
      · rw [e2] at e3; exact absurd e3 (by decide)
      obtain ⟨τ', f1, f2, f3, f4, f5, f6⟩ := e3.2.2 τ hm
      refine ⟨σ', τ', ?_, f1, R0_su h (fq_X7_explore e1) (fun _ _ _ _ => by omega) (Or.inr e3), f2.symm, f3.symm, f4.symm, f5.symm, e3.2.1, fun v hv' => (f6 v hv').symm⟩
      unfold fX9_exploreAll
      rw [xcmb_eq hv.1 hx, bd_some, cmb_prd hv n (Nat.le_refl _), if_pos c', if_pos hs, e1, bv_some]
    · obtain ⟨τ', f1, f2, f3, f4, f5, f6⟩ := hs.2.2 τ hm
      refine ⟨σ, τ', ?_, f1, h, f2.symm, f3.symm, f4.symm, f5.symm, hs.2.1, fun v hv' => (f6 v hv').symm⟩
      unfold fX9_exploreAll
      rw [xcmb_eq hv.1 hx, bd_some, cmb_prd hv n (Nat.le_refl _), if_pos c', if_neg (by rw [hs.1]; decide)]
  · right
    have c' : ¬ nI (prd (sz p n) n) ≤ (5000 : Int32) := fun hh => c ((nI_leI (b := 5000) (by omega) (by omega)).1 hh)
    constructor
    · unfold fX9_exploreAll
      rw [xcmb_eq hv.1 hx, bd_some, cmb_prd hv n (Nat.le_refl _), if_neg c']
    · unfold fX10_findsAll
      rw [mcmb_eq hv.1 hm, bd_some, cmb_prd hv n (Nat.le_refl _), if_neg c']
theorem R0_RR {B : Nat} {p : Nat → Nat → Int32} {n k : Nat} {bs : Nat → Int32} {U : Nat → Nat → Nat} {it : Nat} {σ τ : Mem} (h : R0 B p n k bs U it σ τ) : RR B σ τ := ⟨p, n, k, bs, U, it, h⟩
abbrev Wfa : Nat → Nat → Prop := fun c i => c = 124 ∧ i = 0 ∨ c = 124 ∧ 42 ≤ i ∧ i < 46 ∨ c = 131 ∨ c = 146 ∨ c = 147
theorem fa_0 {τ τ' : Mem} (h : fX10_findsAll τ = some (1, τ')) : Ag Wfa τ (mst τ' 124 0 0) := ag_2 (W2 := Wfa) (fq_X10_findsAll h) (fun _ _ _ => by omega) (a_m0 τ' 0) (fun _ _ _ => by omega)
theorem S_optimum : Sim wL_optimum fX10_optimum := by
  intro B σ τ hB h
  have h00 := h
  obtain ⟨p, n, k, bs, U, it, h⟩ := h
  rcases all_R h with ⟨σ', τ', e1, e2, e3, e4⟩ | ⟨e1, e2⟩
  · refine q_ok (R0_RR e3) (σ' 113 3) (σ1 := σ') (ag_r (W := Wn)) (fun _ _ _ _ => by omega) (fa_0 e2) (fun _ _ _ _ _ => by omega) ?_ ?_ (m00 _ _)
    · unfold wL_optimum fX9_optimum; rw [e1, bx_inl, bx_inl]
    · unfold fX10_optimum; rw [e2, bd_some, if_neg (by decide), lt_e2, m0n _ _ (by decide), e4.1]
  · refine q_no h00 1 (by decide) ?_ ?_
    · unfold wL_optimum fX9_optimum; rw [e1, bx_inr, bx_inr, if_pos rfl]
    · unfold fX10_optimum; rw [e2, bd_some, if_pos rfl, m_fails, bd_some]
theorem S_optima : Sim wL_optima fX10_optima := by
  intro B σ τ hB h
  have h00 := h
  obtain ⟨p, n, k, bs, U, it, h⟩ := h
  rcases all_R h with ⟨σ', τ', e1, e2, e3, e4⟩ | ⟨e1, e2⟩
  · refine q_ok (R0_RR e3) (σ' 113 4) (σ1 := σ') (ag_r (W := Wn)) (fun _ _ _ _ => by omega) (fa_0 e2) (fun _ _ _ _ _ => by omega) ?_ ?_ (m00 _ _)
    · unfold wL_optima fX9_optima; rw [e1, bx_inl, bx_inl]
    · unfold fX10_optima; rw [e2, bd_some, if_neg (by decide), lt_e2, m0n _ _ (by decide), e4.2.1]
  · refine q_no h00 1 (by decide) ?_ ?_
    · unfold wL_optima fX9_optima; rw [e1, bx_inr, bx_inr, if_pos rfl]
    · unfold fX10_optima; rw [e2, bd_some, if_pos rfl, m_fails, bd_some]
theorem S_worst : Sim wL_worst fX10_worst := by
  intro B σ τ hB h
  have h00 := h
  obtain ⟨p, n, k, bs, U, it, h⟩ := h
  rcases all_R h with ⟨σ', τ', e1, e2, e3, e4⟩ | ⟨e1, e2⟩
  · refine q_ok (R0_RR e3) (σ' 113 5) (σ1 := σ') (ag_r (W := Wn)) (fun _ _ _ _ => by omega) (fa_0 e2) (fun _ _ _ _ _ => by omega) ?_ ?_ (m00 _ _)
    · unfold wL_worst fX9_worst; rw [e1, bx_inl, bx_inl]
    · unfold fX10_worst; rw [e2, bd_some, if_neg (by decide), lt_e2, m0n _ _ (by decide), e4.2.2.1]
  · refine q_no h00 1 (by decide) ?_ ?_
    · unfold wL_worst fX9_worst; rw [e1, bx_inr, bx_inr, if_pos rfl]
    · unfold fX10_worst; rw [e2, bd_some, if_pos rfl, m_fails, bd_some]
theorem S_optimalValue (a : Int32) : Sim (fun σ => wL_optimalValue σ a) (fun τ => fX10_optimalValue τ a) := by
  intro B σ τ hB h
  dsimp only
  have h00 := h
  obtain ⟨p, n, k, bs, U, it, h⟩ := h
  have hn := h.2.1.1.1
  have x1 := h.2.1.2.1.1
  have m1 := h.2.1.2.2.1.1
  rcases inN n a with ⟨v, hv, rfl⟩ | ha
  · rcases all_R h with ⟨σ', τ', e1, e2, e3, e4⟩ | ⟨e1, e2⟩
    · refine q_ok (R0_RR e3) (σ' 115 v) (σ1 := σ') (ag_r (W := Wn)) (fun _ _ _ _ => by omega) (fa_0 e2) (fun _ _ _ _ _ => by omega) ?_ ?_ (m00 _ _)
      · unfold wL_optimalValue fX9_optimalValue; rw [xvar_ok hn x1 hv, bx_inl, e1, bx_inl, ck_i (by omega) (by omega), cl_i (by omega), bx_inl]
      · unfold fX10_optimalValue
        rw [mvar_ok hn m1 hv, bd_some, if_neg (by decide), e2, bd_some, if_neg (by decide), lt_e2, ck_i (by omega) (by omega), cl_i (by omega), mst_ne _ _ _ (by decide), e4.2.2.2.2.2 v hv]
    · refine q_no h00 2 (by decide) ?_ ?_
      · unfold wL_optimalValue fX9_optimalValue; rw [xvar_ok hn x1 hv, bx_inl, e1, bx_inr, bx_inr, if_neg (by decide), if_pos rfl]
      · unfold fX10_optimalValue; rw [mvar_ok hn m1 hv, bd_some, if_neg (by decide), e2, bd_some, if_pos rfl, m_fails, bd_some]
  · refine q_no h00 1 (by decide) ?_ ?_
    · unfold wL_optimalValue fX9_optimalValue; rw [xvar_no hn x1 ha, bx_inr, bx_inr, if_pos rfl]
    · unfold fX10_optimalValue; rw [mvar_no hn m1 ha, bd_some, if_pos rfl, m_fails, bd_some]
theorem una_loop {τ : Mem} {m : Int32} (h : τ 124 45 = m) : ∀ (j i : Nat), i + j = 20 → ∀ N, j < N → fX10_unavoidable_L22 N τ (cntB m i) (nI i) = some (cntB m 20, τ) := by
  intro j
  induction j with
  | zero =>
    intro i hi N hN
    obtain ⟨N, rfl, hN⟩ := nsub1 hN
    have e : i = 20 := by omega
    subst e
    rw [show fX10_unavoidable_L22 (N + 1) = fX10_unavoidable_B22 (fX10_unavoidable_L22 N) from rfl]
    unfold fX10_unavoidable_B22
    rw [if_pos (by decide)]
  | succ j ih =>
    intro i hi N hN
    obtain ⟨N, rfl, hN⟩ := nsub1 hN
    rw [show fX10_unavoidable_L22 (N + 1) = fX10_unavoidable_B22 (fX10_unavoidable_L22 N) from rfl]
    unfold fX10_unavoidable_B22 li
    rw [if_neg (show ¬ (20 : Int32) ≤ nI i from fun h => absurd ((le_i (a := 20) (b := i) (by omega) (by omega)).mp h) (by omega)), nI_s, h]
    exact ih (i + 1) (by omega) N (by omega)
theorem S_unavoidable : Sim wL_unavoidable fX10_unavoidable := by
  intro B σ τ hB h
  have h00 := h
  obtain ⟨p, n, k, bs, U, it, h⟩ := h
  have hk := two_k h.2.1.1.2.1
  rcases all_R h with ⟨σ', τ', e1, e2, e3, e4⟩ | ⟨e1, e2⟩
  · obtain ⟨m, hm, em⟩ := e4.2.2.2.2.1
    have t45 : (mst τ' 124 0 0) 124 45 = nI m := by rw [m0n _ _ (by decide), ← e4.2.2.2.1, em]
    have e5 := una_loop t45 20 0 (by omega) FU (FU_lt (by omega))
    refine q_ok (R0_RR e3) (cntB (nI m) 20) (σ1 := σ') (ag_r (W := Wn)) (fun _ _ _ _ => by omega) (fa_0 e2) (fun _ _ _ _ _ => by omega) ?_ ?_ (m00 _ _)
    · unfold wL_unavoidable fX9_unavoidable; rw [e1, bx_inl, bc_eq, bd_some, bx_inl, em, bcv_20 (by omega)]
    · unfold fX10_unavoidable; rw [e2, bd_some, if_neg (by decide), lt_e2]; exact e5
  · refine q_no h00 1 (by decide) ?_ ?_
    · unfold wL_unavoidable fX9_unavoidable; rw [e1, bx_inr, bx_inr, if_pos rfl]
    · unfold fX10_unavoidable; rw [e2, bd_some, if_pos rfl, m_fails, bd_some]
