/-! PURE, 9: a problem copied -/
def cpX (b o : Nat) (σ : Mem) : Mem := fun c => if c = b then upd (upd (σ b) 7 (σ o 7)) 8 (σ o 8) else if c = b + 1 ∨ c = b + 2 then cpyF (σ (o + (c - b))) (σ c) 10 else if c = b + 3 ∨ c = b + 4 ∨ c = b + 5 ∨ c = b + 6 then cpyF (σ (o + (c - b))) (σ c) 20 else σ c
theorem cpX_far (b o : Nat) (σ : Mem) {c : Nat} (h : c < b ∨ b + 7 ≤ c) : cpX b o σ c = σ c := by
  unfold cpX
  rw [if_neg (by omega), if_neg (by omega), if_neg (by omega)]
theorem cpX_0 (b o : Nat) (σ : Mem) : cpX b o σ b = upd (upd (σ b) 7 (σ o 7)) 8 (σ o 8) := by
  unfold cpX
  rw [if_pos rfl]
theorem cpX_10 (b o : Nat) (σ : Mem) {j : Nat} (h : 1 ≤ j ∧ j ≤ 2) : cpX b o σ (b + j) = cpyF (σ (o + j)) (σ (b + j)) 10 := by
  unfold cpX
  rw [if_neg (by omega), if_pos (by omega), show b + j - b = j by omega]
theorem cpX_20 (b o : Nat) (σ : Mem) {j : Nat} (h : 3 ≤ j ∧ j ≤ 6) : cpX b o σ (b + j) = cpyF (σ (o + j)) (σ (b + j)) 20 := by
  unfold cpX
  rw [if_neg (by omega), if_neg (by omega), if_pos (by omega), show b + j - b = j by omega]
theorem copyFrom_eq (b o : Nat) (σ : Mem) (hf : o + 7 ≤ b ∨ b + 7 ≤ o) : fX4_copyFrom b o σ = some (cpX b o σ) := by
  have e10 : (10 : Int32) = nI 10 := rfl
  have e20 : (20 : Int32) = nI 20 := rfl
  unfold fX4_copyFrom
  simp only [lt]
  rw [e10, e20]
  rw [ckc0 10 10 10 (by omega) (by omega) (by omega), mcp0 _ _ _ _ (by omega)]
  rw [ckc0 10 10 10 (by omega) (by omega) (by omega), mcp0 _ _ _ _ (by omega)]
  rw [ckc0 20 20 20 (by omega) (by omega) (by omega), mcp0 _ _ _ _ (by omega)]
  rw [ckc0 20 20 20 (by omega) (by omega) (by omega), mcp0 _ _ _ _ (by omega)]
  rw [ckc0 20 20 20 (by omega) (by omega) (by omega), mcp0 _ _ _ _ (by omega)]
  rw [ckc0 20 20 20 (by omega) (by omega) (by omega), mcp0 _ _ _ _ (by omega)]
  congr 1
  have hb : o ≠ b := by omega
  rw [mst_ne _ _ _ hb]
  generalize hs : mst (mst σ b 7 (σ o 7)) b 8 (σ o 8) = s
  have s0 : s b = upd (upd (σ b) 7 (σ o 7)) 8 (σ o 8) := by
    rw [← hs, mst_at, mst_at]
  have sn : ∀ c, c ≠ b → s c = σ c := by
    intro c hc
    rw [← hs, mst_ne _ _ _ hc, mst_ne _ _ _ hc]
  funext c
  simp only [mw_ne _ _ (show o + 2 ≠ b + 1 by omega), mw_ne _ _ (show b + 2 ≠ b + 1 by omega), mw_ne _ _ (show o + 3 ≠ b + 1 by omega), mw_ne _ _ (show o + 3 ≠ b + 2 by omega), mw_ne _ _ (show b + 3 ≠ b + 1 by omega), mw_ne _ _ (show b + 3 ≠ b + 2 by omega),
    mw_ne _ _ (show o + 4 ≠ b + 1 by omega), mw_ne _ _ (show o + 4 ≠ b + 2 by omega), mw_ne _ _ (show o + 4 ≠ b + 3 by omega), mw_ne _ _ (show b + 4 ≠ b + 1 by omega), mw_ne _ _ (show b + 4 ≠ b + 2 by omega), mw_ne _ _ (show b + 4 ≠ b + 3 by omega),
    mw_ne _ _ (show o + 5 ≠ b + 1 by omega), mw_ne _ _ (show o + 5 ≠ b + 2 by omega), mw_ne _ _ (show o + 5 ≠ b + 3 by omega), mw_ne _ _ (show o + 5 ≠ b + 4 by omega), mw_ne _ _ (show b + 5 ≠ b + 1 by omega), mw_ne _ _ (show b + 5 ≠ b + 2 by omega), mw_ne _ _ (show b + 5 ≠ b + 3 by omega), mw_ne _ _ (show b + 5 ≠ b + 4 by omega),
    mw_ne _ _ (show o + 6 ≠ b + 1 by omega), mw_ne _ _ (show o + 6 ≠ b + 2 by omega), mw_ne _ _ (show o + 6 ≠ b + 3 by omega), mw_ne _ _ (show o + 6 ≠ b + 4 by omega), mw_ne _ _ (show o + 6 ≠ b + 5 by omega), mw_ne _ _ (show b + 6 ≠ b + 1 by omega), mw_ne _ _ (show b + 6 ≠ b + 2 by omega), mw_ne _ _ (show b + 6 ≠ b + 3 by omega), mw_ne _ _ (show b + 6 ≠ b + 4 by omega), mw_ne _ _ (show b + 6 ≠ b + 5 by omega)]
  by_cases c6 : c = b + 6
  · rw [c6, mw_at, cpX_20 _ _ _ (by omega), sn _ (by omega), sn _ (by omega)]
  rw [mw_ne _ _ c6]
  by_cases c5 : c = b + 5
  · rw [c5, mw_at, cpX_20 _ _ _ (by omega), sn _ (by omega), sn _ (by omega)]
  rw [mw_ne _ _ c5]
  by_cases c4 : c = b + 4
  · rw [c4, mw_at, cpX_20 _ _ _ (by omega), sn _ (by omega), sn _ (by omega)]
  rw [mw_ne _ _ c4]
  by_cases c3 : c = b + 3
  · rw [c3, mw_at, cpX_20 _ _ _ (by omega), sn _ (by omega), sn _ (by omega)]
  rw [mw_ne _ _ c3]
  by_cases c2 : c = b + 2
  · rw [c2, mw_at, cpX_10 _ _ _ (by omega), sn _ (by omega), sn _ (by omega)]
  rw [mw_ne _ _ c2]
  by_cases c1 : c = b + 1
  · rw [c1, mw_at, cpX_10 _ _ _ (by omega), sn _ (by omega), sn _ (by omega)]
  rw [mw_ne _ _ c1]
  by_cases c0 : c = b
  · rw [c0, s0, cpX_0]
  rw [sn _ c0, cpX_far _ _ _ (by omega)]
