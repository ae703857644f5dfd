/-! PURE, 12: the reference takes its problem back, piece by piece -/
def slb (f g : Nat → Int32) (a n : Nat) : Nat → Int32 := fun i => if i < n then g (a + i) else f i
theorem slb_0 (f g : Nat → Int32) (a : Nat) : slb f g a 0 = f := by
  funext i
  unfold slb
  rw [if_neg (by omega)]
theorem slb_s (f g : Nat → Int32) (a i : Nat) : upd (slb f g a i) i (g (a + i)) = slb f g a (i + 1) := by
  funext j
  by_cases h : j = i
  · rw [h, upd_at]
    unfold slb
    rw [if_pos (by omega)]
  · rw [upd_ne _ _ h]
    unfold slb
    by_cases h2 : j < i
    · rw [if_pos h2, if_pos (by omega)]
    · rw [if_neg h2, if_neg (by omega)]
def hbk (q1 q2 a i : Nat) (σ : Mem) : Mem := mst (mw σ q1 (slb (σ q1) (σ q2) a i)) 124 29 (nI (a + i))
theorem hbk_0 (q1 q2 a : Nat) (σ : Mem) (h : σ 124 29 = nI a) : hbk q1 q2 a 0 σ = σ := by
  unfold hbk
  rw [slb_0, mw_self]
  funext c
  by_cases hc : c = 124
  · rw [hc, mst_at, show nI (a + 0) = σ 124 29 from h.symm, upd_self]
  · rw [mst_ne _ _ _ hc]
theorem hbk_s {q1 q2 a i : Nat} (σ : Mem) (h3 : q1 ≠ 124) : mst (mst (hbk q1 q2 a i σ) q1 i (σ q2 (a + i))) 124 29 (nI (a + i + 1)) = hbk q1 q2 a (i + 1) σ := by
  have h3' : 124 ≠ q1 := fun h => h3 h.symm
  unfold hbk
  funext c
  by_cases hc : c = 124
  · rw [hc, mst_at, mst_at, mst_ne _ _ _ h3', mst_at, mw_ne _ _ h3', mw_ne _ _ h3', upd_upd]
    rfl
  · rw [mst_ne _ _ _ hc, mst_ne _ _ _ hc]
    by_cases h2 : c = q1
    · rw [h2, mst_at, mst_ne _ _ _ h3, mw_at, mw_at, slb_s]
    · rw [mst_ne _ _ _ h2, mst_ne _ _ _ hc, mw_ne _ _ h2, mw_ne _ _ h2]
theorem back_loop {q1 nn1 q2 nn2 a : Nat} (h1 : q1 ≠ q2) (h2 : q1 ≠ 124) (h3 : q2 ≠ 124) (hn : a + nn1 ≤ nn2) (hm : nn2 ≤ 1000) (σ : Mem) (hk : σ 124 31 = 0) : ∀ (j i : Nat), i + j = nn1 → ∀ N, j < N → fX10_hands_L2 q1 nn1 q2 nn2 N (hbk q1 q2 a i σ) (nI i) = some (hbk q1 q2 a nn1 σ) := by
  have h3' : 124 ≠ q1 := fun h => h2 h.symm
  intro j
  induction j with
  | zero =>
    intro i hi N hN
    obtain ⟨k, rfl, hk2⟩ := nsub1 hN
    rw [show fX10_hands_L2 q1 nn1 q2 nn2 (k + 1) = fX10_hands_B2 q1 nn1 q2 nn2 (fX10_hands_L2 q1 nn1 q2 nn2 k) from rfl]
    unfold fX10_hands_B2
    rw [if_pos (show Int32.ofNat nn1 ≤ nI i from (le_i (a := nn1) (b := i) (by omega) (by omega)).2 (by omega)), show i = nn1 by omega]
  | succ j ih =>
    intro i hi N hN
    obtain ⟨k, rfl, hk2⟩ := nsub1 hN
    have e31 : (hbk q1 q2 a i σ) 124 31 = 0 := by
      unfold hbk
      rw [mst_at, upd_ne _ _ (by decide), mw_ne _ _ h3', hk]
    have e29 : (hbk q1 q2 a i σ) 124 29 = nI (a + i) := by
      unfold hbk
      rw [mst_at, upd_at]
    have eq1 : (hbk q1 q2 a i σ) q2 = σ q2 := by
      unfold hbk
      rw [mst_ne _ _ _ h3, mw_ne _ _ (fun h => h1 h.symm)]
    rw [show fX10_hands_L2 q1 nn1 q2 nn2 (k + 1) = fX10_hands_B2 q1 nn1 q2 nn2 (fX10_hands_L2 q1 nn1 q2 nn2 k) from rfl]
    unfold fX10_hands_B2 fX10_hands_L36
    rw [if_neg (show ¬ Int32.ofNat nn1 ≤ nI i from fun hh => by
      have := (le_i (a := nn1) (b := i) (by omega) (by omega)).1 hh
      omega), e31, if_pos rfl, e29, ck_i (by omega) (by omega), ck_i (by omega) (by omega), cl_i (by omega), cl_i (by omega), eq1]
    simp only [lt]
    rw [mst_ne _ _ _ h3', e29, nI_s, nI_s, hbk_s σ h2]
    exact ih (i + 1) (by omega) k (by omega)
theorem back_eq {q1 nn1 q2 nn2 a : Nat} (h1 : q1 ≠ q2) (h2 : q1 ≠ 124) (h3 : q2 ≠ 124) (hn : a + nn1 ≤ nn2) (hm : nn2 ≤ 1000) (σ : Mem) (hk : σ 124 31 = 0) (ha : σ 124 29 = nI a) : fX10_hands q1 nn1 q2 nn2 σ = some (hbk q1 q2 a nn1 σ) := by
  have h := back_loop h1 h2 h3 hn hm σ hk nn1 0 (by omega) FU (FU_lt (by omega))
  rw [hbk_0 _ _ _ _ ha] at h
  exact h
