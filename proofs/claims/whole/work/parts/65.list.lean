/-! PURE, 25: the lists of moves, step by step -/
theorem lt_e2 {γ : Type} (σ : Mem) (K : Mem → γ) : lt σ K = K σ := Eq.trans (Eq.refl (lt σ K)) (Eq.refl (K σ))
theorem bool_i : vp_nar .boolean 0 = 0 ∧ vp_nar .boolean 1 = 1 := by decide
def b01 (b : Bool) : Int32 := if b = true then 1 else 0
theorem mhl_loop {τ : Mem} {p : Nat → Nat → Int32} {n k it m : Nat} {U : Nat → Nat → Nat} {row : Nat → Int32} {bc : Int32} (hv : vld p n k) (hx : isM τ p n k) (hr : ∀ v, v < n → τ 144 v = row v) (hs : ∀ v, v < n → sml (row v)) (hi : τ 124 15 = nI it) (hit : it ≤ 50000) (hU : ∀ v a, v < 10 ∧ v < n → a < 8 → U v a ≤ it + 21 ∧ τ 133 (8 * v + a) = nI (U v a) - 1) (hb : τ 124 14 = bc) (hm : τ 124 39 = nI m) (hm4 : m < 400) (hc : τ 143 m = cst p row n k) : ∀ (j v : Nat), v + j = n → ∀ N, j < N → fX10_lists_L73 N τ (b01 (hldv U it p row v)) (nI v) = some (mst (mst τ 145 m (hI U it p n k bc row)) 124 39 (nI (m + 1))) := by
  have hn := hv.1
  intro j
  induction j with
  | zero =>
    intro v hv' N hN
    obtain ⟨N, rfl, hN⟩ := nsub1 hN
    have e : v = n := by omega
    subst e
    rw [show fX10_lists_L73 (N + 1) = fX10_lists_B73 (fX10_lists_L73 N) from rfl]
    unfold fX10_lists_B73 fX10_lists_L166 fX10_lists_L167
    simp only [lt, hm, ck_i hm4 (show 400 ≤ 1000000 by omega), cl_i (show m ≤ 1000000 by omega), mst_ne _ _ _ (show (124 : Nat) ≠ 145 by decide), nI_s, hc, hb, bool_i.1, bool_i.2]
    rw [hx.1.1, if_pos ((le_i (by omega) (by omega)).2 (Nat.le_refl _))]
    unfold hI b01
    by_cases h : hldv U it p row v = true
    · rw [if_pos h, if_neg (by decide)]
      by_cases c : cst p row v k < bc
      · rw [if_pos c, if_neg (fun hh => nl_i hh c)]
      · rw [if_neg c, if_pos (Int32.not_lt.mp c)]
    · rw [if_neg h, if_pos rfl, ite_self]
  | succ j ih =>
    intro v hv' N hN
    obtain ⟨N, rfl, hN⟩ := nsub1 hN
    have e1 : hldv U it p row (v + 1) = (hldv U it p row v || (!(decide (row v = p 1 v)) && decide (it < U v (row v).toNatClampNeg))) := rfl
    have ih1 := ih (v + 1) (by omega) N (by omega)
    rw [show fX10_lists_L73 (N + 1) = fX10_lists_B73 (fX10_lists_L73 N) from rfl]
    unfold fX10_lists_B73 fX10_lists_L124 fX10_lists_L120 fX10_lists_L125 fX10_isForbiddenNow
    simp only [ck_i (show v < 10 by omega) (show 10 ≤ 1000000 by omega), cl_i (show v ≤ 1000000 by omega), nI_s]
    rw [hx.1.1, if_neg (fun h => absurd ((le_i (by omega) (by omega)).1 h) (by omega))]
    unfold b01
    by_cases h : hldv U it p row v = true
    · rw [if_pos h, if_neg (by decide)]
      rw [e1, h] at ih1
      exact ih1
    · rw [if_neg h, if_pos rfl, hr v (by omega), hx.2 v (by omega)]
      have h0 : hldv U it p row v = false := by simpa using h
      by_cases c : row v = p 1 v
      · rw [if_pos c]
        rw [e1, h0, decide_eq_true c] at ih1
        exact ih1
      · rw [if_neg c]
        obtain ⟨w, hw, ew⟩ := hs v (by omega)
        obtain ⟨u1, u2⟩ := hU v w (by omega) hw
        rw [ew, cl_i (by omega)] at e1
        rw [ew] at c
        rw [ew, show (8 : Int32) * nI v = nI (8 * v) from nI_mul 8 v, nI_add, ck_i (by omega) (by omega), cl_i (by omega), u2, hi]
        by_cases d : U v w ≤ it
        · rw [if_pos ((ban_lt (by omega) (by omega)).2 d), bd_some, if_pos rfl]
          rw [e1, h0, decide_eq_false (show ¬ it < U v w by omega), Bool.and_false] at ih1
          exact ih1
        · rw [if_neg (fun hh => d ((ban_lt (by omega) (by omega)).1 hh)), bd_some, if_neg (by decide)]
          rw [e1, h0, decide_eq_true (show it < U v w by omega), decide_eq_false c] at ih1
          exact ih1
/-- what the reference knows while it lists -/
def LM (p : Nat → Nat → Int32) (n k : Nat) (U : Nat → Nat → Nat) (it : Nat) (bc kI : Int32) (τ : Mem) : Prop := isM τ p n k ∧ τ 124 15 = nI it ∧ it ≤ 50000 ∧ (∀ v a, v < 10 ∧ v < n → a < 8 → U v a ≤ it + 21 ∧ τ 133 (8 * v + a) = nI (U v a) - 1) ∧ τ 124 14 = bc ∧ τ 124 20 = kI
theorem LM_ag {p : Nat → Nat → Int32} {n k : Nat} {U : Nat → Nat → Nat} {it : Nat} {bc kI : Int32} {τ τ' : Mem} {W : Nat → Nat → Prop} (h : LM p n k U it bc kI τ) (a : Ag W τ τ') (s : ∀ c i, c = 124 ∧ i < 39 ∨ 125 ≤ c ∧ c < 131 ∨ c = 133 → ¬ W c i) : LM p n k U it bc kI τ' := by
  obtain ⟨h1, h2, h3, h4, h5, h6⟩ := h
  exact ⟨isM_ag h1 a (fun c i h => s c i (by omega)), (a _ _ (s _ _ (by omega))).trans h2, h3, fun v b hv hb => ⟨(h4 v b hv hb).1, (a _ _ (s _ _ (by omega))).trans (h4 v b hv hb).2⟩, (a _ _ (s _ _ (by omega))).trans h5, (a _ _ (s _ _ (by omega))).trans h6⟩
theorem mlists {τ : Mem} {p : Nat → Nat → Int32} {n k it m kd a b c : Nat} {U : Nat → Nat → Nat} {bc kI cI : Int32} (hv : vld p n k) (hL : LM p n k U it bc kI τ) (hm : τ 124 39 = nI m) (hm4 : m < 400) (hmv : mvV n kd a b c) (h3 : kd = 3 → cI = nI c) (hok : bstOk p n (aft p kd a b c)) : ∃ τ', fX10_lists τ (nI kd) (nI a) (nI b) cI = some τ' ∧ τ' 124 39 = nI (m + 1) ∧ (τ' 139 m = nI kd ∧ τ' 140 m = nI a ∧ τ' 141 m = nI b ∧ τ' 142 m = cI ∧ τ' 143 m = cst p (aft p kd a b c) n k ∧ τ' 145 m = hI U it p n k bc (aft p kd a b c)) ∧ (∀ j, j < m → τ' 139 j = τ 139 j ∧ τ' 140 j = τ 140 j ∧ τ' 141 j = τ 141 j ∧ τ' 142 j = τ 142 j ∧ τ' 143 j = τ 143 j ∧ τ' 145 j = τ 145 j) ∧ Ag W_X10_lists τ τ' := by
  have hn := hv.1
  obtain ⟨t1, e1, r1, a1⟩ := mft hv hL.1 hmv h3
  have m1 : t1 124 39 = nI m := (a1 _ _ (by omega)).trans hm
  generalize ht2 : mst (mst (mst (mst t1 139 m (nI kd)) 140 m (nI a)) 141 m (nI b)) 142 m cI = t2
  have a2 : Ag (fun c i => (c = 139 ∨ c = 140 ∨ c = 141 ∨ c = 142) ∧ i = m) t1 t2 := by
    rw [← ht2]
    intro c i hc
    by_cases ci : i = m
    · rw [mst_ne _ _ _ (by omega), mst_ne _ _ _ (by omega), mst_ne _ _ _ (by omega), mst_ne _ _ _ (by omega)]
    · by_cases g2 : c = 142
      · rw [g2, mst_at, upd_ne _ _ ci, mst_ne _ _ _ (by decide), mst_ne _ _ _ (by decide), mst_ne _ _ _ (by decide)]
      rw [mst_ne _ _ _ g2]
      by_cases g1 : c = 141
      · rw [g1, mst_at, upd_ne _ _ ci, mst_ne _ _ _ (by decide), mst_ne _ _ _ (by decide)]
      rw [mst_ne _ _ _ g1]
      by_cases g0 : c = 140
      · rw [g0, mst_at, upd_ne _ _ ci, mst_ne _ _ _ (by decide)]
      rw [mst_ne _ _ _ g0]
      by_cases g9 : c = 139
      · rw [g9, mst_at, upd_ne _ _ ci]
      rw [mst_ne _ _ _ g9]
  have v9 : t2 139 m = nI kd := by rw [← ht2, mst_ne _ _ _ (by decide), mst_ne _ _ _ (by decide), mst_ne _ _ _ (by decide), mst_at, upd_at]
  have v0 : t2 140 m = nI a := by rw [← ht2, mst_ne _ _ _ (by decide), mst_ne _ _ _ (by decide), mst_at, upd_at]
  have v1 : t2 141 m = nI b := by rw [← ht2, mst_ne _ _ _ (by decide), mst_at, upd_at]
  have v2 : t2 142 m = cI := by rw [← ht2, mst_at, upd_at]
  have L1 := LM_ag hL a1 (fun _ _ _ => by omega)
  have L2 := LM_ag L1 a2 (fun _ _ _ => by omega)
  have m2 : t2 124 39 = nI m := (a2 _ _ (by omega)).trans m1
  obtain ⟨t3, e3, a3⟩ := mcostP (q := 144) (by decide) hv L2.1.1 (row := aft p kd a b c) (fun v hv' => (a2 _ _ (by omega)).trans (r1 v hv')) (bst_sml hok)
  generalize ht4 : mst t3 143 m (cst p (aft p kd a b c) n k) = t4
  have a4 : Ag (fun c i => c = 143 ∧ i = m) t3 t4 := by rw [← ht4]; exact ag_mst _ _ ⟨rfl, rfl⟩
  have a24 : Ag (fun c i => c = 131 ∨ c = 143 ∧ i = m) t2 t4 := ag_2 a3 (fun _ _ h => Or.inl h) a4 (fun _ _ h => Or.inr h)
  have L4 := LM_ag L2 a24 (fun _ _ _ => by omega)
  have m4 : t4 124 39 = nI m := (a24 _ _ (by omega)).trans m2
  have c4 : t4 143 m = cst p (aft p kd a b c) n k := by rw [← ht4, mst_at, upd_at]
  have e4 := mhl_loop hv L4.1 (row := aft p kd a b c) (fun v hv' => (a24 _ _ (by omega)).trans ((a2 _ _ (by omega)).trans (r1 v hv'))) (bst_sml hok) L4.2.1 L4.2.2.1 L4.2.2.2.1 L4.2.2.2.2.1 m4 hm4 c4 n 0 (by omega) FU (FU_lt (by omega))
  have main : fX10_lists τ (nI kd) (nI a) (nI b) cI = some (mst (mst t4 145 m (hI U it p n k bc (aft p kd a b c))) 124 39 (nI (m + 1))) := by
    unfold fX10_lists
    rw [e1, bv_some]
    simp only [lt_e2, m1, ck_i hm4 (show 400 ≤ 1000000 by omega), cl_i (show m ≤ 1000000 by omega), mst_ne _ _ _ (show (124 : Nat) ≠ 139 by decide), mst_ne _ _ _ (show (124 : Nat) ≠ 140 by decide), mst_ne _ _ _ (show (124 : Nat) ≠ 141 by decide), mst_ne _ _ _ (show (124 : Nat) ≠ 142 by decide)]
    rw [show b01 (hldv U it p (aft p kd a b c) 0) = 0 from rfl, nI_0] at e4
    rw [ht2, e3, bd_some, ht4]
    exact e4
  have am := fq_X10_lists main
  have hlow : ∀ q j, j < m → (q = 139 ∨ q = 140 ∨ q = 141 ∨ q = 142 ∨ q = 143 ∨ q = 145) → mst (mst t4 145 m (hI U it p n k bc (aft p kd a b c))) 124 39 (nI (m + 1)) q j = τ q j := fun q j hj hc => by
    rw [mst_ne _ _ _ (by omega)]
    refine (show mst t4 145 m _ q j = t4 q j from ?_).trans ((a24 _ _ (by omega)).trans ((a2 _ _ (by omega)).trans (a1 _ _ (by omega))))
    by_cases c5 : q = 145
    · rw [c5, mst_at, upd_ne _ _ (by omega)]
    · rw [mst_ne _ _ _ c5]
  refine ⟨_, main, by rw [mst_at, upd_at], ⟨?_, ?_, ?_, ?_, ?_, ?_⟩, fun j hj => ⟨hlow 139 j hj (by omega), hlow 140 j hj (by omega), hlow 141 j hj (by omega), hlow 142 j hj (by omega), hlow 143 j hj (by omega), hlow 145 j hj (by omega)⟩, am⟩
  · rw [mst_ne _ _ _ (by decide), mst_ne _ _ _ (by decide)]; exact (a24 _ _ (by omega)).trans v9
  · rw [mst_ne _ _ _ (by decide), mst_ne _ _ _ (by decide)]; exact (a24 _ _ (by omega)).trans v0
  · rw [mst_ne _ _ _ (by decide), mst_ne _ _ _ (by decide)]; exact (a24 _ _ (by omega)).trans v1
  · rw [mst_ne _ _ _ (by decide), mst_ne _ _ _ (by decide)]; exact (a24 _ _ (by omega)).trans v2
  · rw [mst_ne _ _ _ (by decide), mst_ne _ _ _ (by decide)]; exact c4
  · rw [mst_ne _ _ _ (by decide), mst_at, upd_at]
/-- a move of both lists -/
def mvR (p : Nat → Nat → Int32) (n k : Nat) (U : Nat → Nat → Nat) (it : Nat) (bc : Int32) (σ τ : Mem) (j : Nat) : Prop := ∃ kd a b c : Nat, mvV n kd a b c ∧ bstOk p n (aft p kd a b c) ∧ (σ 100 j = nI kd ∧ σ 101 j = nI a ∧ σ 102 j = nI b ∧ (kd = 3 → σ 103 j = nI c)) ∧ (τ 139 j = nI kd ∧ τ 140 j = nI a ∧ τ 141 j = nI b ∧ τ 142 j = σ 103 j) ∧ τ 143 j = cst p (aft p kd a b c) n k ∧ τ 145 j = hI U it p n k bc (aft p kd a b c)
theorem mvR_tr {p : Nat → Nat → Int32} {n k : Nat} {U : Nat → Nat → Nat} {it : Nat} {bc : Int32} {σ τ σ' τ' : Mem} {j : Nat} (h : mvR p n k U it bc σ τ j) (hx : σ' 100 j = σ 100 j ∧ σ' 101 j = σ 101 j ∧ σ' 102 j = σ 102 j ∧ σ' 103 j = σ 103 j) (hm : τ' 139 j = τ 139 j ∧ τ' 140 j = τ 140 j ∧ τ' 141 j = τ 141 j ∧ τ' 142 j = τ 142 j ∧ τ' 143 j = τ 143 j ∧ τ' 145 j = τ 145 j) : mvR p n k U it bc σ' τ' j := by
  obtain ⟨kd, a, b, c, h1, h2, ⟨x0, x1, x2, x3⟩, ⟨y0, y1, y2, y3⟩, y4, y5⟩ := h
  obtain ⟨u0, u1, u2, u3⟩ := hx
  obtain ⟨w0, w1, w2, w3, w4, w5⟩ := hm
  exact ⟨kd, a, b, c, h1, h2, ⟨u0.trans x0, u1.trans x1, u2.trans x2, fun e => u3.trans (x3 e)⟩, ⟨w0.trans y0, w1.trans y1, w2.trans y2, w3.trans (y3.trans u3.symm)⟩, w4.trans y4, w5.trans y5⟩
def LSt (p : Nat → Nat → Int32) (n k : Nat) (U : Nat → Nat → Nat) (it : Nat) (bc kI : Int32) (m : Nat) (σ τ : Mem) : Prop := isX 1 σ p n k ∧ LM p n k U it bc kI τ ∧ σ 98 1 = nI m ∧ τ 124 39 = nI m ∧ ∀ j, j < m → mvR p n k U it bc σ τ j
theorem put_step {p : Nat → Nat → Int32} {n k it m kd a b c : Nat} {U : Nat → Nat → Nat} {bc kI cI : Int32} {σ τ : Mem} (hv : vld p n k) (h : LSt p n k U it bc kI m σ τ) (hm : m < 375) (hmv : mvV n kd a b c) (h3 : kd = 3 → cI = nI c) (hok : bstOk p n (aft p kd a b c)) : ∃ σ' τ', fX3_put σ (nI kd) (nI a) (nI b) cI = some σ' ∧ fX10_lists τ (nI kd) (nI a) (nI b) cI = some τ' ∧ LSt p n k U it bc kI (m + 1) σ' τ' := by
  obtain ⟨hx, hL, s1, t1, hj⟩ := h
  obtain ⟨τ', e2, g1, ⟨g2, g3, g4, g5, g6, g7⟩, g8, a2⟩ := mlists hv hL t1 (by omega) hmv h3 hok
  have e1 : fX3_put σ (nI kd) (nI a) (nI b) cI = some (mst (mst (mst (mst (mst σ 100 m (nI kd)) 101 m (nI a)) 102 m (nI b)) 103 m cI) 98 1 (nI (m + 1))) := by
    unfold fX3_put
    simp only [lt, s1, ck_i hm (show 375 ≤ 1000000 by omega), cl_i (show m ≤ 1000000 by omega), mst_ne _ _ _ (show (98 : Nat) ≠ 100 by decide), mst_ne _ _ _ (show (98 : Nat) ≠ 101 by decide), mst_ne _ _ _ (show (98 : Nat) ≠ 102 by decide), mst_ne _ _ _ (show (98 : Nat) ≠ 103 by decide), nI_s]
    rw [if_neg (show ¬ (375 : Int32) ≤ nI m from fun h => absurd ((le_i (a := 375) (b := m) (by omega) (by omega)).1 h) (by omega))]
  have a1 := fq_X3_put e1
  refine ⟨_, τ', e1, e2, isX_ag hx a1 (fun _ _ _ => by omega), LM_ag hL a2 (fun _ _ _ => by omega), by rw [mst_at, upd_at], g1, fun j hj' => ?_⟩
  have x0 : (mst (mst (mst (mst (mst σ 100 m (nI kd)) 101 m (nI a)) 102 m (nI b)) 103 m cI) 98 1 (nI (m + 1))) 100 = upd (σ 100) m (nI kd) := by
    rw [mst_ne _ _ _ (by decide), mst_ne _ _ _ (by decide), mst_ne _ _ _ (by decide), mst_ne _ _ _ (by decide), mst_at]
  have x1 : (mst (mst (mst (mst (mst σ 100 m (nI kd)) 101 m (nI a)) 102 m (nI b)) 103 m cI) 98 1 (nI (m + 1))) 101 = upd (σ 101) m (nI a) := by
    rw [mst_ne _ _ _ (by decide), mst_ne _ _ _ (by decide), mst_ne _ _ _ (by decide), mst_at, mst_ne _ _ _ (by decide)]
  have x2 : (mst (mst (mst (mst (mst σ 100 m (nI kd)) 101 m (nI a)) 102 m (nI b)) 103 m cI) 98 1 (nI (m + 1))) 102 = upd (σ 102) m (nI b) := by
    rw [mst_ne _ _ _ (by decide), mst_ne _ _ _ (by decide), mst_at, mst_ne _ _ _ (by decide), mst_ne _ _ _ (by decide)]
  have x3 : (mst (mst (mst (mst (mst σ 100 m (nI kd)) 101 m (nI a)) 102 m (nI b)) 103 m cI) 98 1 (nI (m + 1))) 103 = upd (σ 103) m cI := by
    rw [mst_ne _ _ _ (by decide), mst_at, mst_ne _ _ _ (by decide), mst_ne _ _ _ (by decide), mst_ne _ _ _ (by decide)]
  by_cases e : j = m
  · subst e
    exact ⟨kd, a, b, c, hmv, hok, ⟨by rw [x0, upd_at], by rw [x1, upd_at], by rw [x2, upd_at], fun e => by rw [x3, upd_at]; exact h3 e⟩, ⟨g2, g3, g4, by rw [x3, upd_at]; exact g5⟩, g6, g7⟩
  · exact mvR_tr (hj j (by omega)) ⟨by rw [x0, upd_ne _ _ e], by rw [x1, upd_ne _ _ e], by rw [x2, upd_ne _ _ e], by rw [x3, upd_ne _ _ e]⟩ (g8 j (by omega))
