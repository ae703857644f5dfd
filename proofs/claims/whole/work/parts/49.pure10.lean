/-! PURE, 10: the history of the class, a ring of eight -/
theorem mod8_i : ∀ a, a < 17 → nI a - nI a / (8 : Int32) * (8 : Int32) = nI (a % 8) := by decide +kernel
def rem8 (σ : Mem) (o e : Nat) : Mem := if e = 8 then mst (cpX (17 + 8 * ((o + e) % 8)) 1 σ) 81 1 (nI ((o + 1) % 8)) else mst (cpX (17 + 8 * ((o + e) % 8)) 1 σ) 81 2 (nI (e + 1))
theorem xremember (σ : Mem) {o e : Nat} (ho : o < 8) (he : e ≤ 8) (h1 : σ 81 1 = nI o) (h2 : σ 81 2 = nI e) : fX1_remember σ = some (rem8 σ o e) := by
  have hm : (o + e) % 8 < 8 := Nat.mod_lt _ (by omega)
  unfold fX1_remember rem8
  rw [h1, h2, nI_add, mod8_i _ (by omega), ck_i hm (by omega), cl_i (by omega), copyFrom_eq _ _ _ (by omega), bv_some]
  generalize hg : cpX (17 + 8 * ((o + e) % 8)) 1 σ = g
  have g81 : g 81 = σ 81 := by
    rw [← hg, cpX_far _ _ _ (by omega)]
  rw [g81, h1, h2]
  by_cases c : e = 8
  · have hc : (8 : Int32) ≤ nI e := (le_i (a := 8) (b := e) (by omega) (by omega)).2 (by omega)
    rw [if_pos hc, if_pos c, nI_s, mod8_i _ (by omega)]
    rfl
  · have hc : ¬ (8 : Int32) ≤ nI e := fun hh => by
      have := (le_i (a := 8) (b := e) (by omega) (by omega)).1 hh
      omega
    rw [if_neg hc, if_neg c, nI_s]
    rfl
theorem nI_d1 {e : Nat} (h : 1 ≤ e) : nI e - (1 : Int32) = nI (e - 1) := by
  have h2 := nI_s (e - 1)
  rw [show e - 1 + 1 = e by omega] at h2
  rw [← h2]
  exact Int32.add_sub_cancel _ _
theorem xbringBack (σ : Mem) {o e : Nat} (ho : o < 8) (he : e ≤ 8) (h0 : 1 ≤ e) (h1 : σ 81 1 = nI o) (h2 : σ 81 2 = nI e) : fX1_bringBack σ = some (cpX 1 (17 + 8 * ((o + (e - 1)) % 8)) (mst σ 81 2 (nI (e - 1)))) := by
  have hm : (o + (e - 1)) % 8 < 8 := Nat.mod_lt _ (by omega)
  unfold fX1_bringBack
  simp only [lt]
  rw [h2, nI_d1 h0]
  have g2 : (mst σ 81 2 (nI (e - 1))) 81 2 = nI (e - 1) := by
    rw [mst_at, upd_at]
  have g1 : (mst σ 81 2 (nI (e - 1))) 81 1 = nI o := by
    rw [mst_at, upd_ne _ _ (by decide), h1]
  rw [g1, g2, nI_add, mod8_i _ (by omega), ck_i hm (by omega), cl_i (by omega), copyFrom_eq _ _ _ (by omega), bv_some]
theorem xsave (σ : Mem) : fX9_save σ = some (σ 1 7, mst (cpX 9 1 σ) 0 8 1) := by
  unfold fX9_save
  rw [copyFrom_eq _ _ _ (by omega), bv_some]
  simp only [lt]
  rw [mst_ne _ _ _ (by decide : (9 : Nat) ≠ 0), cpX_0, upd_ne _ _ (by decide), upd_at]
