/-! PURE, 4: the search begins, on both sides: what memory comes of it -/
def fillF (f : Nat → Int32) (n : Nat) (v : Int32) : Nat → Int32 := fun i => if i < n then v else f i
/-- the cells lo <= c < hi anew -/
def mr (σ : Mem) (lo hi : Nat) (F : Nat → Nat → Int32) : Mem := fun c => if lo ≤ c ∧ c < hi then F c else σ c
theorem mr_in (σ : Mem) {lo hi c : Nat} (F : Nat → Nat → Int32) (h : lo ≤ c ∧ c < hi) : mr σ lo hi F c = F c := if_pos h
theorem mr_out (σ : Mem) {lo hi c : Nat} (F : Nat → Nat → Int32) (h : ¬ (lo ≤ c ∧ c < hi)) : mr σ lo hi F c = σ c := if_neg h
theorem fill_loop (q nn : Nat) (hnn : nn ≤ 1000) (σ : Mem) (v : Int32) : ∀ (j i : Nat), i + j = nn → ∀ N, j < N → fJ7_fill_53178_L5 q nn N (mw σ q (fillF (σ q) i v)) v (nI i) (nI nn) = some (mw σ q (fillF (σ q) nn v)) := by
  intro j
  induction j with
  | zero =>
    intro i hi N hN
    obtain ⟨N, rfl, hN⟩ := nsub1 hN
    have e : i = nn := by omega
    subst e
    rw [show fJ7_fill_53178_L5 q i (N + 1) = fJ7_fill_53178_B5 q i (fJ7_fill_53178_L5 q i N) from rfl]
    unfold fJ7_fill_53178_B5
    rw [if_pos ((le_i (by omega) (by omega)).mpr (Nat.le_refl _))]
  | succ j ih =>
    intro i hi N hN
    obtain ⟨N, rfl, hN⟩ := nsub1 hN
    rw [show fJ7_fill_53178_L5 q nn (N + 1) = fJ7_fill_53178_B5 q nn (fJ7_fill_53178_L5 q nn N) from rfl]
    unfold fJ7_fill_53178_B5 lt
    rw [if_neg (fun h => absurd ((le_i (by omega) (by omega)).mp h) (by omega)), ck_i (by omega) (by omega), cl_i (by omega), mst_mw, nI_s]
    have e : upd (fillF (σ q) i v) i v = fillF (σ q) (i + 1) v := by
      funext k
      unfold upd fillF
      by_cases h1 : k = i
      · rw [if_pos h1, if_pos (by omega)]
      · rw [if_neg h1]
        by_cases h2 : k < i
        · rw [if_pos h2, if_pos (by omega)]
        · rw [if_neg h2, if_neg (by omega)]
    rw [e]
    exact ih (i + 1) (by omega) N (by omega)
theorem fill_0 (f : Nat → Int32) (v : Int32) : fillF f 0 v = f := by
  funext k
  unfold fillF
  rw [if_neg (Nat.not_lt_zero k)]
theorem fill_eq (q nn : Nat) (hnn : nn ≤ 1000) (σ : Mem) (v : Int32) : fJ7_fill_53178 q nn σ v = some (mw σ q (fillF (σ q) nn v)) := by
  have h := fill_loop q nn hnn σ v nn 0 (by omega) FU (FU_lt (by omega))
  rw [fill_0, mw_self] at h
  exact h
theorem free_loop (σ : Mem) : ∀ (j i : Nat), i + j = 10 → ∀ N, j < N → fX8_freeAll_L2 N (mr σ 88 (88 + i) (fun c => fillF (σ c) 8 0)) (nI i) = some (mr σ 88 98 (fun c => fillF (σ c) 8 0)) := by
  intro j
  induction j with
  | zero =>
    intro i hi N hN
    obtain ⟨N, rfl, hN⟩ := nsub1 hN
    have e : i = 10 := by omega
    subst e
    rw [show fX8_freeAll_L2 (N + 1) = fX8_freeAll_B2 (fX8_freeAll_L2 N) from rfl]
    unfold fX8_freeAll_B2
    rw [if_pos (by decide)]
  | succ j ih =>
    intro i hi N hN
    obtain ⟨N, rfl, hN⟩ := nsub1 hN
    rw [show fX8_freeAll_L2 (N + 1) = fX8_freeAll_B2 (fX8_freeAll_L2 N) from rfl]
    unfold fX8_freeAll_B2
    rw [if_neg (show ¬ (10 : Int32) ≤ nI i from fun h => absurd ((le_i (a := 10) (b := i) (by omega) (by omega)).mp h) (by omega)), ck_i (by omega) (by omega), cl_i (by omega), fill_eq _ _ (by omega), bv_some, nI_s, Nat.one_mul]
    have e : mw (mr σ 88 (88 + i) (fun c => fillF (σ c) 8 0)) (88 + i) (fillF (mr σ 88 (88 + i) (fun c => fillF (σ c) 8 0) (88 + i)) 8 0) = mr σ 88 (88 + (i + 1)) (fun c => fillF (σ c) 8 0) := by
      rw [mr_out σ _ (show ¬ (88 ≤ 88 + i ∧ 88 + i < 88 + i) by omega)]
      funext c
      unfold mw mr
      by_cases h1 : c = 88 + i
      · subst h1
        rw [if_pos rfl, if_pos (by omega)]
      · rw [if_neg h1]
        by_cases h2 : 88 ≤ c ∧ c < 88 + i
        · rw [if_pos h2, if_pos (by omega)]
        · rw [if_neg h2, if_neg (by omega)]
    rw [e]
    exact ih (i + 1) (by omega) N (by omega)
theorem mr_0 (σ : Mem) (lo : Nat) (F : Nat → Nat → Int32) : mr σ lo (lo + 0) F = σ := by
  funext c
  exact mr_out σ F (by omega)
theorem free_eq (σ : Mem) : fX8_freeAll σ = some (mr σ 88 98 (fun c => fillF (σ c) 8 0)) := by
  have h := free_loop σ 10 0 (by omega) FU (FU_lt (by omega))
  rw [mr_0] at h
  exact h
theorem allows_loop (σ : Mem) : ∀ (j i : Nat), i + j = 80 → ∀ N, j < N → fX10_allowsAll_L2 N (mw σ 133 (fillF (σ 133) i (-1))) (nI i) = some (mw σ 133 (fillF (σ 133) 80 (-1))) := by
  intro j
  induction j with
  | zero =>
    intro i hi N hN
    obtain ⟨N, rfl, hN⟩ := nsub1 hN
    have e : i = 80 := by omega
    subst e
    rw [show fX10_allowsAll_L2 (N + 1) = fX10_allowsAll_B2 (fX10_allowsAll_L2 N) from rfl]
    unfold fX10_allowsAll_B2
    rw [if_pos (by decide)]
  | succ j ih =>
    intro i hi N hN
    obtain ⟨N, rfl, hN⟩ := nsub1 hN
    rw [show fX10_allowsAll_L2 (N + 1) = fX10_allowsAll_B2 (fX10_allowsAll_L2 N) from rfl]
    unfold fX10_allowsAll_B2 lt
    rw [if_neg (show ¬ (80 : Int32) ≤ nI i from fun h => absurd ((le_i (a := 80) (b := i) (by omega) (by omega)).mp h) (by omega)), ck_i (by omega) (by omega), cl_i (by omega), mst_mw, nI_s]
    have e : upd (fillF (σ 133) i (-1)) i (-1) = fillF (σ 133) (i + 1) (-1) := by
      funext k
      unfold upd fillF
      by_cases h1 : k = i
      · rw [if_pos h1, if_pos (by omega)]
      · rw [if_neg h1]
        by_cases h2 : k < i
        · rw [if_pos h2, if_pos (by omega)]
        · rw [if_neg h2, if_neg (by omega)]
    rw [e]
    exact ih (i + 1) (by omega) N (by omega)
theorem allows_eq (σ : Mem) : fX10_allowsAll σ = some (mw σ 133 (fillF (σ 133) 80 (-1))) := by
  have h := allows_loop σ 80 0 (by omega) FU (FU_lt (by omega))
  rw [fill_0, mw_self] at h
  exact h
/-- the first n of g, then f -/
def cpyF (g f : Nat → Int32) (n : Nat) : Nat → Int32 := fun i => if i < n then g i else f i
theorem cpy_0 (g f : Nat → Int32) : cpyF g f 0 = f := by
  funext k
  unfold cpyF
  rw [if_neg (Nat.not_lt_zero k)]
theorem cpy_s (g f : Nat → Int32) (i : Nat) : upd (cpyF g f i) i (g i) = cpyF g f (i + 1) := by
  funext k
  unfold upd cpyF
  by_cases h1 : k = i
  · rw [if_pos h1, if_pos (by omega), h1]
  · rw [if_neg h1]
    by_cases h2 : k < i
    · rw [if_pos h2, if_pos (by omega)]
    · rw [if_neg h2, if_neg (by omega)]
theorem va_cpy0 (g f : Nat → Int32) (n : Nat) : va_cpy g f 0 0 n = cpyF g f n := by
  funext k
  unfold va_cpy cpyF
  by_cases h : k < n
  · rw [if_pos (by omega), if_pos h]
    congr 1
    omega
  · rw [if_neg (by omega), if_neg h]
theorem mcp0 (σ : Mem) (b a n : Nat) (hn : n ≤ 1000) : mcp σ b 0 a 0 (nI n) = mw σ a (cpyF (σ b) (σ a) n) := by
  unfold mcp
  rw [show (0 : Int32).toNatClampNeg = 0 by decide, cl_i (by omega), va_cpy0]
theorem ckc0 {α : Type} (n n0 n1 : Nat) (h0 : n ≤ n0) (h1 : n ≤ n1) (hn : n ≤ 1000) (a : Option α) : ckc 0 0 (nI n) n0 n1 a = a := by
  unfold ckc
  rw [if_neg]
  rw [show (0 : Int32).toNatClampNeg = 0 by decide, cl_i (by omega)]
  simp only [not_or]
  refine ⟨by decide, by decide, nI_pos (by omega), by omega, by omega⟩
theorem keepBest_eq (σ : Mem) (a : Int32) : fX8_keepBest σ a = some (mst (mst (mw σ 85 (cpyF (σ 3) (σ 85) 10)) 84 5 a) 84 6 (σ 84 7)) := by
  unfold fX8_keepBest lt
  rw [show (10 : Int32) = nI 10 from rfl, ckc0 10 10 10 (by omega) (by omega) (by omega), mcp0 _ _ _ _ (by omega)]
  rfl
theorem keeps_loop (σ : Mem) : ∀ (j i : Nat), i + j = 10 → ∀ N, j < N → fX10_keepsBest_L2 N (mw σ 132 (cpyF (σ 126) (σ 132) i)) (nI i) = some (mst (mst (mw σ 132 (cpyF (σ 126) (σ 132) 10)) 124 14 (σ 124 13)) 124 18 (σ 124 15)) := by
  intro j
  induction j with
  | zero =>
    intro i hi N hN
    obtain ⟨N, rfl, hN⟩ := nsub1 hN
    have e : i = 10 := by omega
    subst e
    rw [show fX10_keepsBest_L2 (N + 1) = fX10_keepsBest_B2 (fX10_keepsBest_L2 N) from rfl]
    unfold fX10_keepsBest_B2 lt
    rw [if_pos (by decide)]
    rfl
  | succ j ih =>
    intro i hi N hN
    obtain ⟨N, rfl, hN⟩ := nsub1 hN
    rw [show fX10_keepsBest_L2 (N + 1) = fX10_keepsBest_B2 (fX10_keepsBest_L2 N) from rfl]
    unfold fX10_keepsBest_B2 lt
    rw [if_neg (show ¬ (10 : Int32) ≤ nI i from fun h => absurd ((le_i (a := 10) (b := i) (by omega) (by omega)).mp h) (by omega)), ck_i (by omega) (by omega), ck_i (by omega) (by omega), cl_i (by omega), mst_mw, mw_ne σ _ (show (126 : Nat) ≠ 132 by decide), cpy_s, nI_s]
    exact ih (i + 1) (by omega) N (by omega)
theorem keeps_eq (σ : Mem) : fX10_keepsBest σ = some (mst (mst (mw σ 132 (cpyF (σ 126) (σ 132) 10)) 124 14 (σ 124 13)) 124 18 (σ 124 15)) := by
  have h := keeps_loop σ 10 0 (by omega) FU (FU_lt (by omega))
  rw [cpy_0, mw_self] at h
  exact h
