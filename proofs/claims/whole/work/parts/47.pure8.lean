/-! PURE, 8: the text's calls, short ones -/
theorem x_append_ok (σ : Mem) {a : Int32} {n : Nat} (h1 : (32 : Int32) ≤ a) (h2 : a ≤ (126 : Int32)) (hn : n < 60) (hs : σ 116 1 = nI n) : wL_append σ a = some (0, mst (mst (mst σ 117 n (vp_nar .char a)) 116 1 (nI (n + 1))) 155 0 (nI (n + 1))) := by
  unfold wL_append fX9_append
  rw [xrange_ok σ h1 h2, bx_inl, hs, if_pos (show nI n < (60 : Int32) from (lt_i (a := n) (b := 60) (by omega) (by omega)).2 hn)]
  have e : fX2_put σ a = some (mst (mst σ 117 n (vp_nar .char a)) 116 1 (nI (n + 1))) := by
    unfold fX2_put
    rw [hs, ck_i hn (by omega), cl_i (by omega)]
    simp only [lt]
    rw [mst_ne _ _ _ (by decide : (116 : Nat) ≠ 117), hs, nI_s]
  rw [e, bv_some, bx_inl, mst_at, upd_at]
theorem x_append_full (σ : Mem) {a : Int32} (h1 : (32 : Int32) ≤ a) (h2 : a ≤ (126 : Int32)) (hs : σ 116 1 = 60) : wL_append σ a = some (2, σ) := by
  unfold wL_append fX9_append
  rw [xrange_ok σ h1 h2, bx_inl, hs, if_neg (by decide), bx_inr, if_neg (by decide), if_pos rfl]
theorem x_append_no (σ : Mem) {a : Int32} (h : ¬ ((32 : Int32) ≤ a ∧ a ≤ (126 : Int32))) : wL_append σ a = some (1, σ) := by
  unfold wL_append fX9_append
  rw [xrange_no σ h, bx_inr, bx_inr, if_pos rfl]
theorem m_append_ok (σ : Mem) {a : Int32} {n : Nat} (h1 : (32 : Int32) ≤ a) (h2 : a ≤ (126 : Int32)) (hn : n < 60) (hs : σ 124 52 = nI n) : fX10_append σ a = some (nI (n + 1), mst (mst (mst σ 124 0 0) 148 n a) 124 52 (nI (n + 1))) := by
  unfold fX10_append
  rw [mrange_ok σ h1 h2, bd_some, if_neg (by decide), hs, if_neg (show ¬ nI n = (60 : Int32) from fun hh => by
    have := (eq_i (a := n) (b := 60) (by omega) (by omega)).1 hh
    omega)]
  have e : (mst σ 124 0 0) 124 52 = nI n := by
    rw [mst_at, upd_ne _ _ (by decide), hs]
  simp only [lt]
  rw [e, ck_i hn (by omega), cl_i (by omega), mst_ne _ _ _ (by decide : (124 : Nat) ≠ 148), e, nI_s, mst_at, upd_at]
theorem m_append_full (σ : Mem) {a : Int32} (h1 : (32 : Int32) ≤ a) (h2 : a ≤ (126 : Int32)) (hs : σ 124 52 = 60) : fX10_append σ a = some (0, mst σ 124 0 2) := by
  unfold fX10_append
  rw [mrange_ok σ h1 h2, bd_some, if_neg (by decide), hs, if_pos rfl]
  rfl
theorem m_append_no (σ : Mem) {a : Int32} (h : ¬ ((32 : Int32) ≤ a ∧ a ≤ (126 : Int32))) : fX10_append σ a = some (0, mst σ 124 0 1) := by
  unfold fX10_append
  rw [mrange_no σ h, bd_some, if_pos rfl]
  rfl
theorem x_errorPosition_no (σ : Mem) (h : σ 0 9 = -1) : wL_errorPosition σ = some (1, σ) := by
  unfold wL_errorPosition fX9_errorPosition
  rw [if_pos h, bx_inr, if_pos rfl]
theorem x_errorPosition_ok (σ : Mem) (h : ¬ σ 0 9 = -1) : wL_errorPosition σ = some (0, mst σ 155 0 (σ 0 9)) := by
  unfold wL_errorPosition fX9_errorPosition
  rw [if_neg h, bx_inl]
theorem m_errorPosition_no (σ : Mem) (h : ¬ 0 ≤ σ 124 55) : fX10_errorPosition σ = some (0, mst σ 124 0 1) := by
  unfold fX10_errorPosition
  rw [if_neg h]
  rfl
theorem m_errorPosition_ok (σ : Mem) (h : 0 ≤ σ 124 55) : fX10_errorPosition σ = some (σ 124 55, mst σ 124 0 0) := by
  unfold fX10_errorPosition
  rw [if_pos h]
  simp only [lt]
  rw [mst_at, upd_ne _ _ (by decide)]
theorem m_bestCost (σ : Mem) : fX10_bestCost σ = some (σ 124 14, mst σ 124 0 0) := by
  unfold fX10_bestCost
  simp only [lt]
  rw [mst_at, upd_ne _ _ (by decide)]
theorem m_cost (σ : Mem) : fX10_cost σ = some (σ 124 13, mst σ 124 0 0) := by
  unfold fX10_cost
  simp only [lt]
  rw [mst_at, upd_ne _ _ (by decide)]
theorem m_logSize (σ : Mem) : fX10_logSize σ = some (σ 124 19, mst σ 124 0 0) := by
  unfold fX10_logSize
  simp only [lt]
  rw [mst_at, upd_ne _ _ (by decide)]
