/-! PURE, 7: the settings' calls -/
theorem nl_i {a b : Int32} (h : a ≤ b) : ¬ b < a := by
  intro hh
  rw [Int32.lt_iff_toInt_lt] at hh
  rw [Int32.le_iff_toInt_le] at h
  omega
theorem ln_i {a b : Int32} (h : ¬ a ≤ b) : b < a := by
  rw [Int32.le_iff_toInt_le] at h
  rw [Int32.lt_iff_toInt_lt]
  omega
theorem xrange_ok (σ : Mem) {a lo hi : Int32} (h1 : lo ≤ a) (h2 : a ≤ hi) : fX9_checkRange σ a lo hi = some (.inl (), σ) := by
  unfold fX9_checkRange
  rw [if_neg (nl_i h1), if_pos h2]
theorem xrange_no (σ : Mem) {a lo hi : Int32} (h : ¬ (lo ≤ a ∧ a ≤ hi)) : fX9_checkRange σ a lo hi = some (.inr "java/lang/IllegalArgumentException", σ) := by
  unfold fX9_checkRange
  by_cases h1 : a < lo
  · rw [if_pos h1]; rfl
  · rw [if_neg h1]
    by_cases h2 : a ≤ hi
    · exact absurd ⟨by
        rw [Int32.lt_iff_toInt_lt] at h1
        rw [Int32.le_iff_toInt_le]
        omega, h2⟩ h
    · rw [if_neg h2]; rfl
theorem mrange_ok (σ : Mem) {a lo hi : Int32} (h1 : lo ≤ a) (h2 : a ≤ hi) : fX10_isBetween σ a lo hi = some (1, σ) := by
  unfold fX10_isBetween
  rw [if_neg (nl_i h1), if_neg (nl_i h2)]
theorem mrange_no (σ : Mem) {a lo hi : Int32} (h : ¬ (lo ≤ a ∧ a ≤ hi)) : fX10_isBetween σ a lo hi = some (0, σ) := by
  unfold fX10_isBetween
  by_cases h1 : a < lo
  · rw [if_pos h1]; rfl
  · rw [if_neg h1]
    by_cases h2 : hi < a
    · rw [if_pos h2]; rfl
    · exact absurd ⟨by
        rw [Int32.lt_iff_toInt_lt] at h1
        rw [Int32.le_iff_toInt_le]
        omega, by
        rw [Int32.lt_iff_toInt_lt] at h2
        rw [Int32.le_iff_toInt_le]
        omega⟩ h
theorem x_setNeighborhood_ok (σ : Mem) {a : Int32} (h1 : (0 : Int32) ≤ a) (h2 : a ≤ (15 : Int32)) : wL_setNeighborhood σ a = some (0, mst (mst σ 83 0 a) 155 0 (σ 83 0)) := by
  unfold wL_setNeighborhood fX9_setNeighborhood
  rw [xrange_ok σ h1 h2]
  rfl
theorem x_setNeighborhood_no (σ : Mem) {a : Int32} (h : ¬ ((0 : Int32) ≤ a ∧ a ≤ (15 : Int32))) : wL_setNeighborhood σ a = some (1, σ) := by
  unfold wL_setNeighborhood fX9_setNeighborhood
  rw [xrange_no σ h, bx_inr, bx_inr, if_pos rfl]
theorem m_setNeighborhood_ok (σ : Mem) {a : Int32} (h1 : (0 : Int32) ≤ a) (h2 : a ≤ (15 : Int32)) : fX10_setNeighborhood σ a = some (σ 124 20, mst (mst σ 124 0 0) 124 20 a) := by
  unfold fX10_setNeighborhood
  rw [mrange_ok σ h1 h2, bd_some, if_neg (by decide)]
  simp only [lt]
  rw [mst_at, upd_ne _ _ (by decide)]
theorem m_setNeighborhood_no (σ : Mem) {a : Int32} (h : ¬ ((0 : Int32) ≤ a ∧ a ≤ (15 : Int32))) : fX10_setNeighborhood σ a = some (0, mst σ 124 0 1) := by
  unfold fX10_setNeighborhood
  rw [mrange_no σ h, bd_some, if_pos rfl]
  rfl
theorem x_setTenure_ok (σ : Mem) {a : Int32} (h1 : (0 : Int32) ≤ a) (h2 : a ≤ (20 : Int32)) : wL_setTenure σ a = some (0, mst (mst σ 83 1 a) 155 0 (σ 83 1)) := by
  unfold wL_setTenure fX9_setTenure
  rw [xrange_ok σ h1 h2]
  rfl
theorem x_setTenure_no (σ : Mem) {a : Int32} (h : ¬ ((0 : Int32) ≤ a ∧ a ≤ (20 : Int32))) : wL_setTenure σ a = some (1, σ) := by
  unfold wL_setTenure fX9_setTenure
  rw [xrange_no σ h, bx_inr, bx_inr, if_pos rfl]
theorem m_setTenure_ok (σ : Mem) {a : Int32} (h1 : (0 : Int32) ≤ a) (h2 : a ≤ (20 : Int32)) : fX10_setTenure σ a = some (σ 124 21, mst (mst σ 124 0 0) 124 21 a) := by
  unfold fX10_setTenure
  rw [mrange_ok σ h1 h2, bd_some, if_neg (by decide)]
  simp only [lt]
  rw [mst_at, upd_ne _ _ (by decide)]
theorem m_setTenure_no (σ : Mem) {a : Int32} (h : ¬ ((0 : Int32) ≤ a ∧ a ≤ (20 : Int32))) : fX10_setTenure σ a = some (0, mst σ 124 0 1) := by
  unfold fX10_setTenure
  rw [mrange_no σ h, bd_some, if_pos rfl]
  rfl
theorem x_setPatience_ok (σ : Mem) {a : Int32} (h1 : (1 : Int32) ≤ a) (h2 : a ≤ (100 : Int32)) : wL_setPatience σ a = some (0, mst (mst σ 83 2 a) 155 0 (σ 83 2)) := by
  unfold wL_setPatience fX9_setPatience
  rw [xrange_ok σ h1 h2]
  rfl
theorem x_setPatience_no (σ : Mem) {a : Int32} (h : ¬ ((1 : Int32) ≤ a ∧ a ≤ (100 : Int32))) : wL_setPatience σ a = some (1, σ) := by
  unfold wL_setPatience fX9_setPatience
  rw [xrange_no σ h, bx_inr, bx_inr, if_pos rfl]
theorem m_setPatience_ok (σ : Mem) {a : Int32} (h1 : (1 : Int32) ≤ a) (h2 : a ≤ (100 : Int32)) : fX10_setPatience σ a = some (σ 124 22, mst (mst σ 124 0 0) 124 22 a) := by
  unfold fX10_setPatience
  rw [mrange_ok σ h1 h2, bd_some, if_neg (by decide)]
  simp only [lt]
  rw [mst_at, upd_ne _ _ (by decide)]
theorem m_setPatience_no (σ : Mem) {a : Int32} (h : ¬ ((1 : Int32) ≤ a ∧ a ≤ (100 : Int32))) : fX10_setPatience σ a = some (0, mst σ 124 0 1) := by
  unfold fX10_setPatience
  rw [mrange_no σ h, bd_some, if_pos rfl]
  rfl
theorem x_setSeed_ok (σ : Mem) {a : Int32} (h1 : (0 : Int32) ≤ a) (h2 : a ≤ (2147483647 : Int32)) : wL_setSeed σ a = some (0, mst (mst σ 83 3 a) 155 0 (σ 83 3)) := by
  unfold wL_setSeed fX9_setSeed
  rw [xrange_ok σ h1 h2]
  rfl
theorem x_setSeed_no (σ : Mem) {a : Int32} (h : ¬ ((0 : Int32) ≤ a ∧ a ≤ (2147483647 : Int32))) : wL_setSeed σ a = some (1, σ) := by
  unfold wL_setSeed fX9_setSeed
  rw [xrange_no σ h, bx_inr, bx_inr, if_pos rfl]
theorem m_setSeed_ok (σ : Mem) {a : Int32} (h1 : (0 : Int32) ≤ a) : fX10_setSeed σ a = some (σ 124 23, mst (mst σ 124 0 0) 124 23 a) := by
  unfold fX10_setSeed
  rw [if_pos h1]
  simp only [lt]
  rw [mst_at, upd_ne _ _ (by decide)]
theorem m_setSeed_no (σ : Mem) {a : Int32} (h : ¬ (0 : Int32) ≤ a) : fX10_setSeed σ a = some (0, mst σ 124 0 1) := by
  unfold fX10_setSeed
  rw [if_neg h]
  rfl
