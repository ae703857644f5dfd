/-! PURE, 5: the beginning of a search -/
theorem mst_at (σ : Mem) (c i : Nat) (x : Int32) : mst σ c i x c = upd (σ c) i x := mw_at σ c _
theorem mst_ne (σ : Mem) {c k : Nat} (i : Nat) (x : Int32) (h : k ≠ c) : mst σ c i x k = σ k := mw_ne σ _ h
theorem upd_at (f : Nat → Int32) (k : Nat) (x : Int32) : upd f k x k = x := if_pos rfl
theorem upd_ne (f : Nat → Int32) {k j : Nat} (x : Int32) (h : j ≠ k) : upd f k x j = f j := if_neg h
def begA (σ : Mem) : Mem := mst (mst (mst (mst σ 84 7 0) 84 8 0) 84 9 0) 104 2 0
def begB (σ : Mem) : Mem := mr (begA σ) 88 98 (fun c => fillF (begA σ c) 8 0)
def begX (σ : Mem) (f8 : Nat → Int32) (a : Int32) : Mem := mst (mst (mst (mw (mw (begB σ) 8 f8) 85 (cpyF (begB σ 3) (begB σ 85) 10)) 84 5 a) 84 6 (begB σ 84 7)) 113 2 0
/-- the numbers of a problem as both sides want them: n variables, k constraints, kinds, small values in the row q -/
def okX (σ : Mem) (q n k : Nat) : Prop := n ≤ 10 ∧ k ≤ 20 ∧ σ 1 7 = nI n ∧ σ 1 8 = nI k ∧ (∀ c, c < k → kdOk (σ 4 c)) ∧ ∀ v, v < n → sml (σ q v)
def okM (σ : Mem) (q n k : Nat) : Prop := n ≤ 10 ∧ k ≤ 20 ∧ σ 124 7 = nI n ∧ σ 124 8 = nI k ∧ (∀ c, c < k → kdOk (σ 127 c)) ∧ ∀ v, v < n → sml (σ q v)
theorem xcost' {q : Nat} (hq : q ≠ 8) {σ : Mem} {n k : Nat} (h : okX σ q n k) : ∃ f', fX4_costIn q σ = some (cst (xp σ) (σ q) n k, mw σ 8 f') := xcost q hq σ n k h.1 h.2.1 h.2.2.1 h.2.2.2.1 h.2.2.2.2.1 h.2.2.2.2.2
theorem mcost' {q : Nat} (hq : q ≠ 131) {σ : Mem} {n k : Nat} (h : okM σ q n k) : ∃ f', fX10_costOf q σ = some (cst (mp σ) (σ q) n k, mw σ 131 f') := mcost q hq σ n k h.1 h.2.1 h.2.2.1 h.2.2.2.1 h.2.2.2.2.1 h.2.2.2.2.2
theorem begA_eq (σ : Mem) {c : Nat} (h : c ≠ 84) (h2 : c ≠ 104) : begA σ c = σ c := by
  unfold begA
  rw [mst_ne _ _ _ h2, mst_ne _ _ _ h, mst_ne _ _ _ h, mst_ne _ _ _ h]
theorem begB_eq (σ : Mem) {c : Nat} (h : c ≠ 84) (h2 : c ≠ 104) (h3 : ¬ (88 ≤ c ∧ c < 98)) : begB σ c = σ c := by
  unfold begB
  rw [mr_out _ _ h3, begA_eq σ h h2]
theorem begB_84 (σ : Mem) : begB σ 84 = upd (upd (upd (σ 84) 7 0) 8 0) 9 0 := by
  unfold begB
  rw [mr_out _ _ (by omega)]
  unfold begA
  rw [mst_ne _ _ _ (show (84 : Nat) ≠ 104 by decide), mst_at, mst_at, mst_at]
theorem xp_congr {σ1 σ2 : Mem} (h : ∀ c, 2 ≤ c → c < 8 → σ1 c = σ2 c) (row : Nat → Int32) (n k : Nat) : cst (xp σ1) row n k = cst (xp σ2) row n k := by
  refine cst_congr (fun _ _ => rfl) k (fun c _ => ⟨?_, ?_, ?_, ?_⟩)
  · exact congrFun (h 4 (by omega) (by omega)) c
  · exact congrFun (h 5 (by omega) (by omega)) c
  · exact congrFun (h 6 (by omega) (by omega)) c
  · exact congrFun (h 7 (by omega) (by omega)) c
theorem mp_congr {σ1 σ2 : Mem} (h : ∀ c, 125 ≤ c → c < 131 → σ1 c = σ2 c) (row : Nat → Int32) (n k : Nat) : cst (mp σ1) row n k = cst (mp σ2) row n k := by
  refine cst_congr (fun _ _ => rfl) k (fun c _ => ⟨?_, ?_, ?_, ?_⟩)
  · exact congrFun (h 127 (by omega) (by omega)) c
  · exact congrFun (h 128 (by omega) (by omega)) c
  · exact congrFun (h 129 (by omega) (by omega)) c
  · exact congrFun (h 130 (by omega) (by omega)) c
theorem xbegin {σ : Mem} {n k : Nat} (h : okX σ 3 n k) : ∃ f8, fX9_beginSearch σ = some (begX σ f8 (cst (xp σ) (σ 3) n k)) := by
  have h2 : okX (begB σ) 3 n k := by
    obtain ⟨a, b, c, d, e, f⟩ := h
    refine ⟨a, b, ?_, ?_, ?_, ?_⟩
    · rw [begB_eq σ (by decide) (by decide) (by omega)]; exact c
    · rw [begB_eq σ (by decide) (by decide) (by omega)]; exact d
    · rw [begB_eq σ (by decide) (by decide) (by omega)]; exact e
    · rw [begB_eq σ (by decide) (by decide) (by omega)]; exact f
  obtain ⟨f8, h3⟩ := xcost' (by decide) h2
  refine ⟨f8, ?_⟩
  unfold fX9_beginSearch fX8_begin fX6_forget fX4_presentCost lt
  show bv (bv (some (begA σ)) fun σ11 => bv (fX8_freeAll σ11) fun σ12 => bd (bd (fX4_costIn 3 σ12) fun v2 σ2 => some (v2, σ2)) fun v13 σ13 => bv (fX8_keepBest σ13 v13) fun σ14 => some σ14) (fun σ3 => some (mst σ3 113 2 0)) = _
  rw [bv_some, free_eq, bv_some]
  show bv (bd (bd (fX4_costIn 3 (begB σ)) fun v2 σ2 => some (v2, σ2)) fun v13 σ13 => bv (fX8_keepBest σ13 v13) fun σ14 => some σ14) (fun σ3 => some (mst σ3 113 2 0)) = _
  rw [h3, bd_some, bd_some, keepBest_eq, bv_some, bv_some, begB_eq σ (show (3 : Nat) ≠ 84 by decide) (by decide) (by omega), xp_congr (σ1 := begB σ) (σ2 := σ) (fun c h1 h2 => begB_eq σ (by omega) (by omega) (by omega))]
  unfold begX
  rw [begB_eq σ (show (3 : Nat) ≠ 84 by decide) (by decide) (by omega), mw_ne _ f8 (show (3 : Nat) ≠ 8 by decide), mw_ne _ f8 (show (85 : Nat) ≠ 8 by decide), mw_ne _ f8 (show (84 : Nat) ≠ 8 by decide), begB_eq σ (show (3 : Nat) ≠ 84 by decide) (by decide) (by omega)]
-- what is where behind it
theorem begX_eq (σ : Mem) (f8 : Nat → Int32) (a : Int32) {c : Nat} (h : c ≠ 8 ∧ c ≠ 84 ∧ c ≠ 85 ∧ c ≠ 104 ∧ c ≠ 113 ∧ ¬ (88 ≤ c ∧ c < 98)) : begX σ f8 a c = σ c := by
  obtain ⟨h1, h2, h3, h4, h5, h6⟩ := h
  unfold begX
  rw [mst_ne _ _ _ h5, mst_ne _ _ _ h2, mst_ne _ _ _ h2, mw_ne _ _ h3, mw_ne _ _ h1, begB_eq σ h2 h4 h6]
theorem begX_84 (σ : Mem) (f8 : Nat → Int32) (a : Int32) : begX σ f8 a 84 = upd (upd (upd (upd (upd (σ 84) 7 0) 8 0) 9 0) 5 a) 6 0 := by
  unfold begX
  rw [mst_ne _ _ _ (show (84 : Nat) ≠ 113 by decide), mst_at, mst_at, mw_ne _ _ (show (84 : Nat) ≠ 85 by decide), mw_ne _ _ (show (84 : Nat) ≠ 8 by decide), begB_84]
  rfl
theorem begX_85 (σ : Mem) (f8 : Nat → Int32) (a : Int32) : begX σ f8 a 85 = cpyF (σ 3) (σ 85) 10 := by
  unfold begX
  rw [mst_ne _ _ _ (show (85 : Nat) ≠ 113 by decide), mst_ne _ _ _ (show (85 : Nat) ≠ 84 by decide), mst_ne _ _ _ (show (85 : Nat) ≠ 84 by decide), mw_at, begB_eq σ (by decide) (by decide) (by omega), begB_eq σ (by decide) (by decide) (by omega)]
theorem begX_free (σ : Mem) (f8 : Nat → Int32) (a : Int32) {v : Nat} (hv : v < 10) : begX σ f8 a (88 + v) = fillF (σ (88 + v)) 8 0 := by
  unfold begX
  rw [mst_ne _ _ _ (by omega), mst_ne _ _ _ (by omega), mst_ne _ _ _ (by omega), mw_ne _ _ (by omega), mw_ne _ _ (by omega)]
  unfold begB
  rw [mr_in _ _ (by omega), begA_eq σ (by omega) (by omega)]
theorem begX_104 (σ : Mem) (f8 : Nat → Int32) (a : Int32) : begX σ f8 a 104 = upd (σ 104) 2 0 := by
  unfold begX
  rw [mst_ne _ _ _ (show (104 : Nat) ≠ 113 by decide), mst_ne _ _ _ (show (104 : Nat) ≠ 84 by decide), mst_ne _ _ _ (show (104 : Nat) ≠ 84 by decide), mw_ne _ _ (by decide), mw_ne _ _ (by decide)]
  unfold begB
  rw [mr_out _ _ (by omega)]
  unfold begA
  rw [mst_at, mst_ne _ _ _ (by decide), mst_ne _ _ _ (by decide), mst_ne _ _ _ (by decide)]
theorem begX_113 (σ : Mem) (f8 : Nat → Int32) (a : Int32) : begX σ f8 a 113 = upd (σ 113) 2 0 := by
  unfold begX
  rw [mst_at, mst_ne _ _ _ (by decide), mst_ne _ _ _ (by decide), mw_ne _ _ (by decide), mw_ne _ _ (by decide), begB_eq σ (by decide) (by decide) (by omega)]
-- the reference
def begN (σ : Mem) : Mem := mw (mst (mst (mst (mst σ 124 15 0) 124 16 0) 124 17 0) 124 19 0) 133 (fillF (σ 133) 80 (-1))
def begM (σ : Mem) (f1 : Nat → Int32) (a : Int32) : Mem := mst (mst (mw (mst (mw (begN σ) 131 f1) 124 13 a) 132 (cpyF (σ 126) (σ 132) 10)) 124 14 a) 124 18 0
theorem begN_eq (σ : Mem) {c : Nat} (h : c ≠ 124) (h2 : c ≠ 133) : begN σ c = σ c := by
  unfold begN
  rw [mw_ne _ _ h2, mst_ne _ _ _ h, mst_ne _ _ _ h, mst_ne _ _ _ h, mst_ne _ _ _ h]
theorem begN_124 (σ : Mem) : begN σ 124 = upd (upd (upd (upd (σ 124) 15 0) 16 0) 17 0) 19 0 := by
  unfold begN
  rw [mw_ne _ _ (by decide), mst_at, mst_at, mst_at, mst_at]
theorem mbegin {σ : Mem} {n k : Nat} (h : okM σ 126 n k) : ∃ f1, fX10_begins σ = some (begM σ f1 (cst (mp σ) (σ 126) n k)) := by
  have h2 : okM (begN σ) 126 n k := by
    obtain ⟨a, b, c, d, e, f⟩ := h
    refine ⟨a, b, ?_, ?_, ?_, ?_⟩
    · rw [begN_124]; exact c
    · rw [begN_124]; exact d
    · rw [begN_eq σ (by decide) (by decide)]; exact e
    · rw [begN_eq σ (by decide) (by decide)]; exact f
  obtain ⟨f1, h3⟩ := mcost' (by decide) h2
  refine ⟨f1, ?_⟩
  unfold fX10_begins
  simp only [lt]
  rw [allows_eq, bv_some]
  rw [show mw (mst (mst (mst (mst σ 124 15 0) 124 16 0) 124 17 0) 124 19 0) 133 (fillF (mst (mst (mst (mst σ 124 15 0) 124 16 0) 124 17 0) 124 19 0 133) 80 (-1)) = begN σ from by
    unfold begN
    rw [mst_ne _ _ _ (show (133 : Nat) ≠ 124 by decide), mst_ne _ _ _ (show (133 : Nat) ≠ 124 by decide), mst_ne _ _ _ (show (133 : Nat) ≠ 124 by decide), mst_ne _ _ _ (show (133 : Nat) ≠ 124 by decide)]]
  rw [h3, bd_some, keeps_eq, bv_some, begN_eq σ (show (126 : Nat) ≠ 124 by decide) (by decide), mp_congr (σ1 := begN σ) (σ2 := σ) (fun c h1 h2 => begN_eq σ (by omega) (by omega))]
  unfold begM
  rw [mst_ne _ _ _ (show (126 : Nat) ≠ 124 by decide), mst_ne _ _ _ (show (132 : Nat) ≠ 124 by decide), mw_ne _ f1 (show (126 : Nat) ≠ 131 by decide), mw_ne _ f1 (show (132 : Nat) ≠ 131 by decide), begN_eq σ (by decide) (by decide), begN_eq σ (by decide) (by decide), mst_at, mw_ne _ f1 (show (124 : Nat) ≠ 131 by decide), begN_124]
  rfl
theorem begM_eq (σ : Mem) (f1 : Nat → Int32) (a : Int32) {c : Nat} (h : c ≠ 124 ∧ c ≠ 131 ∧ c ≠ 132 ∧ c ≠ 133) : begM σ f1 a c = σ c := by
  obtain ⟨h1, h2, h3, h4⟩ := h
  unfold begM
  rw [mst_ne _ _ _ h1, mst_ne _ _ _ h1, mw_ne _ _ h3, mst_ne _ _ _ h1, mw_ne _ _ h2, begN_eq σ h1 h4]
theorem begM_124 (σ : Mem) (f1 : Nat → Int32) (a : Int32) : begM σ f1 a 124 = upd (upd (upd (upd (upd (upd (upd (σ 124) 15 0) 16 0) 17 0) 19 0) 13 a) 14 a) 18 0 := by
  unfold begM
  rw [mst_at, mst_at, mw_ne _ _ (by decide), mst_at, mw_ne _ _ (by decide), begN_124]
theorem begM_132 (σ : Mem) (f1 : Nat → Int32) (a : Int32) : begM σ f1 a 132 = cpyF (σ 126) (σ 132) 10 := by
  unfold begM
  rw [mst_ne _ _ _ (by decide), mst_ne _ _ _ (by decide), mw_at]
theorem begM_133 (σ : Mem) (f1 : Nat → Int32) (a : Int32) : begM σ f1 a 133 = fillF (σ 133) 80 (-1) := by
  unfold begM
  rw [mst_ne _ _ _ (by decide), mst_ne _ _ _ (by decide), mw_ne _ _ (by decide), mst_ne _ _ _ (by decide), mw_ne _ _ (by decide)]
  unfold begN
  rw [mw_at]
