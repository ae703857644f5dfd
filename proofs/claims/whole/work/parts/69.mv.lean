/-! PURE, 29: move, nextMove, isLocalOptimum -/
theorem q_no2 {B : Nat} {σ τ σ1 τ1 : Mem} {W W' : Nat → Nat → Prop} {X F : Option (Int32 × Mem)} (h : RR B σ τ) (k : Int32) (hk : k ≠ 0) (a : Ag W σ σ1) (s : ∀ c i, c < 124 → ¬ (c = 8 ∨ c = 86 ∨ c = 98 ∨ 100 ≤ c ∧ c < 104 ∨ c = 114 ∨ c = 122 ∨ c = 123) → ¬ W c i) (a' : Ag W' τ τ1) (s' : ∀ c i, 124 ≤ c → c < 155 → ¬ (c = 124 ∧ i = 0 ∨ c = 124 ∧ 39 ≤ i ∧ i < 46 ∨ c = 124 ∧ i = 57 ∨ c = 131 ∨ 139 ≤ c ∧ c < 148 ∨ c = 154) → ¬ W' c i) (hx : X = some (k, σ1)) (hf : F = some (0, mst τ1 124 0 k)) : ∃ k σ1 b τ1, X = some (k, σ1) ∧ F = some (b, τ1) ∧ RR (B + 30) σ1 τ1 ∧ τ1 124 0 = k ∧ (k = 0 → σ1 155 0 = b) :=
  ⟨k, σ1, 0, _, hx, hf, RR_0 (RR_tr h a s a' s') k, by rw [mst_at, upd_at], fun h => absurd h hk⟩
theorem a_m0' {W : Nat → Nat → Prop} {τ τ1 : Mem} (a : Ag W τ τ1) (x : Int32) : Ag (fun c i => W c i ∨ c = 124 ∧ i = 0) τ (mst τ1 124 0 x) := ag_2 a (fun _ _ h => Or.inl h) (a_m0 τ1 x) (fun _ _ h => Or.inr h)
theorem S_move (a b : Int32) : Sim (fun σ => wL_move σ a b) (fun τ => fX10_move τ a b) := by
  intro B σ τ hB h
  dsimp only
  have h00 := h
  obtain ⟨p, n, k, bs, U, it, h⟩ := h
  have hr := h.2.1
  obtain ⟨hL, hC⟩ := R0_LM (by omega) h
  obtain ⟨m, σ1, τ1, e1, e2, hS, hm⟩ := fill_R hr.1 hr.2.1 hL
  have ax := fq_X3_fill e1
  have am := fq_X10_findMoves e2
  have hC1 := CX_ag hC ax (fun _ _ _ => by omega)
  have s1 := hS.2.2.1
  have t1 := hS.2.2.2.1
  have am2 := a_m0' am 0
  rcases inN m a with ⟨j, hj, rfl⟩ | ha
  · have hxi : ∀ (P Q : Option ((Int32 ⊕ String) × Mem)), (if nI j < 0 then Q else if nI j < σ1 98 1 then P else Q) = P := fun P Q => by
      rw [if_neg (nI_pos (by omega)), s1, if_pos ((lt_i (by omega) (by omega)).2 hj)]
    have hmi : fX10_isBetween τ1 (nI j) 0 (nI m - 1) = some (1, τ1) := by
      rw [nI_d1 (by omega)]
      exact mrange_ok τ1 (nI_pos' (by omega)) ((le_i (by omega) (by omega)).2 (by omega))
    obtain ⟨kd, x, y, z, hv1, -, ⟨g0, g1, g2, g3⟩, ⟨u0, u1, u2, u3⟩, u4, u5⟩ := hS.2.2.2.2 j hj
    obtain ⟨σ2, f1, b1, f2, -⟩ := xlook hr.1 hS hm hC1 hj
    have ax2 : Ag (fun c i => c = 8 ∨ c = 86 ∨ c = 98 ∨ 100 ≤ c ∧ c < 104) σ σ2 := ag_2 ax (fun _ _ _ => by omega) b1 (fun _ _ _ => by omega)
    rcases wh_range τ1 (b := b) (m := 5) (by omega) with ⟨w, hw, rfl, hin⟩ | ⟨hb, hin⟩
    · have hin' : fX10_isBetween τ1 (nI w) 0 5 = some (1, τ1) := hin
      have mm : ∀ R, (∀ s, s = mst τ1 124 0 0 → (if nI w = (0 : Int32) then (ck (nI j) 400 (some (s 139 (nI j).toNatClampNeg, s))) else (if nI w = (1 : Int32) then (ck (nI j) 400 (some (s 140 (nI j).toNatClampNeg, s))) else (if nI w = (2 : Int32) then (ck (nI j) 400 (some (s 141 (nI j).toNatClampNeg, s))) else (if nI w = (3 : Int32) then (ck (nI j) 400 (some (s 142 (nI j).toNatClampNeg, s))) else (if nI w = (4 : Int32) then (ck (nI j) 400 (some (s 143 (nI j).toNatClampNeg, s))) else (ck (nI j) 400 (if (s 145 (nI j).toNatClampNeg) = 0 then (some ((0 : Int32), s)) else (some ((1 : Int32), s))))))))) = R) → fX10_move τ (nI j) (nI w) = R := fun R hR => by
        unfold fX10_move
        simp only [lt]
        rw [e2, bv_some, t1, hmi, bd_some, if_neg (by decide), hin', bd_some, if_neg (by decide)]
        exact hR _ rfl
      have ckj : ∀ o : Option (Int32 × Mem), ck (nI j) 400 o = o := fun o => ck_i (by omega) (by omega) o
      match w, hw with
      | 0, _ =>
        refine q_ok h00 (nI kd) ax (fun _ _ _ _ => by omega) am2 (fun _ _ _ _ _ => by omega) ?_ (mm _ ?_) (m00 _ _)
        · unfold wL_move fX9_move
          rw [e1, bv_some, hxi, if_pos (show nI 0 = (0 : Int32) from rfl), ck_i (by omega) (by omega), ck_i (by omega) (by omega), bx_inl, cl_i (by omega), cl_i (by omega), g0]
        · intro s hs; rw [if_pos (show nI 0 = (0 : Int32) from rfl), ckj, cl_i (by omega), hs, mst_ne _ _ _ (by decide), u0]
      | 1, _ =>
        refine q_ok h00 (nI x) ax (fun _ _ _ _ => by omega) am2 (fun _ _ _ _ _ => by omega) ?_ (mm _ ?_) (m00 _ _)
        · unfold wL_move fX9_move
          rw [e1, bv_some, hxi, if_neg (by decide), if_pos (show nI 1 = (1 : Int32) from rfl), ck_i (by omega) (by omega), ck_i (by omega) (by omega), bx_inl, cl_i (by omega), cl_i (by omega), g1]
        · intro s hs; rw [if_neg (by decide), if_pos (show nI 1 = (1 : Int32) from rfl), ckj, cl_i (by omega), hs, mst_ne _ _ _ (by decide), u1]
      | 2, _ =>
        refine q_ok h00 (nI y) ax (fun _ _ _ _ => by omega) am2 (fun _ _ _ _ _ => by omega) ?_ (mm _ ?_) (m00 _ _)
        · unfold wL_move fX9_move
          rw [e1, bv_some, hxi, if_neg (by decide), if_neg (by decide), if_pos (show nI 2 = (2 : Int32) from rfl), ck_i (by omega) (by omega), ck_i (by omega) (by omega), bx_inl, cl_i (by omega), cl_i (by omega), g2]
        · intro s hs; rw [if_neg (by decide), if_neg (by decide), if_pos (show nI 2 = (2 : Int32) from rfl), ckj, cl_i (by omega), hs, mst_ne _ _ _ (by decide), u2]
      | 3, _ =>
        refine q_ok h00 (σ1 103 j) ax (fun _ _ _ _ => by omega) am2 (fun _ _ _ _ _ => by omega) ?_ (mm _ ?_) (m00 _ _)
        · unfold wL_move fX9_move
          rw [e1, bv_some, hxi, if_neg (by decide), if_neg (by decide), if_neg (by decide), if_pos (show nI 3 = (3 : Int32) from rfl), ck_i (by omega) (by omega), ck_i (by omega) (by omega), bx_inl, cl_i (by omega), cl_i (by omega)]
        · intro s hs; rw [if_neg (by decide), if_neg (by decide), if_neg (by decide), if_pos (show nI 3 = (3 : Int32) from rfl), ckj, cl_i (by omega), hs, mst_ne _ _ _ (by decide), u3]
      | 4, _ =>
        refine q_ok h00 (τ1 143 j) ax2 (fun _ _ _ _ => by omega) am2 (fun _ _ _ _ _ => by omega) ?_ (mm _ ?_) (m00 _ _)
        · unfold wL_move fX9_move
          rw [e1, bv_some, hxi, if_neg (by decide), if_neg (by decide), if_neg (by decide), if_neg (by decide), if_pos (show nI 4 = (4 : Int32) from rfl), f1, bd_some, bx_inl]
        · intro s hs; rw [if_neg (by decide), if_neg (by decide), if_neg (by decide), if_neg (by decide), if_pos (show nI 4 = (4 : Int32) from rfl), ckj, cl_i (by omega), hs, mst_ne _ _ _ (by decide)]
      | 5, _ =>
        refine q_ok h00 (if τ1 145 j = 0 then 0 else 1) ax2 (fun _ _ _ _ => by omega) am2 (fun _ _ _ _ _ => by omega) ?_ (mm _ ?_) (m00 _ _)
        · unfold wL_move fX9_move
          rw [e1, bv_some, hxi, if_neg (by decide), if_neg (by decide), if_neg (by decide), if_neg (by decide), if_neg (by decide), if_pos (show nI 5 = (5 : Int32) from rfl), f1, bd_some, f2, bd_some]
          by_cases c : τ1 145 j = 0
          · rw [if_pos c, bx_inl, if_pos c]
          · rw [if_neg c, bx_inl, if_neg c]
        · intro s hs
          rw [if_neg (by decide), if_neg (by decide), if_neg (by decide), if_neg (by decide), if_neg (by decide), ckj, cl_i (by omega), hs, mst_ne _ _ _ (by decide)]
          by_cases c : τ1 145 j = 0
          · rw [if_pos c, if_pos c]
          · rw [if_neg c, if_neg c]
    · have hin' : fX10_isBetween τ1 b 0 5 = some (0, τ1) := hin
      refine q_no2 h00 2 (by decide) ax (fun _ _ _ _ => by omega) am (fun _ _ _ _ _ => by omega) ?_ ?_
      · unfold wL_move fX9_move
        rw [e1, bv_some, hxi, if_neg (show ¬ b = (0 : Int32) from hb 0 (by omega)), if_neg (show ¬ b = (1 : Int32) from hb 1 (by omega)), if_neg (show ¬ b = (2 : Int32) from hb 2 (by omega)), if_neg (show ¬ b = (3 : Int32) from hb 3 (by omega)), if_neg (show ¬ b = (4 : Int32) from hb 4 (by omega)), if_neg (show ¬ b = (5 : Int32) from hb 5 (by omega)), bx_inr, if_neg (by decide), if_pos rfl]
      · unfold fX10_move
        rw [e2, bv_some, t1, hmi, bd_some, if_neg (by decide), hin', bd_some, if_pos rfl, m_fails, bd_some]
  · refine q_no2 h00 1 (by decide) ax (fun _ _ _ _ => by omega) am (fun _ _ _ _ _ => by omega) ?_ ?_
    · unfold wL_move fX9_move fX9_move_L39
      rw [e1, bv_some]
      by_cases c : a < 0
      · rw [if_pos c, bx_inr, if_pos rfl]
      · obtain ⟨j, hj, rfl⟩ := nI_of c
        rw [if_neg c, s1, if_neg (fun hh => ha j ((nI_ltI hj (by omega)).1 hh) rfl), bx_inr, if_pos rfl]
    · unfold fX10_move
      rw [e2, bv_some, t1, mrange_no τ1 (fun hh => by
        by_cases e0 : m = 0
        · subst e0
          have := Int32.le_trans hh.1 hh.2
          exact absurd this (by decide)
        · rw [nI_d1 (by omega)] at hh
          obtain ⟨w, -, hw, rfl⟩ := rngN (lo := 0) (hi := m - 1) (by omega) hh.1 hh.2 (by omega)
          exact ha w (by omega) rfl), bd_some, if_pos rfl, m_fails, bd_some]
theorem S_nextMove : Sim wL_nextMove fX10_nextMove := by
  intro B σ τ hB h
  have h00 := h
  obtain ⟨p, n, k, bs, U, it, h⟩ := h
  have hr := h.2.1
  obtain ⟨hL, hC⟩ := R0_LM (by omega) h
  obtain ⟨m, σ1, τ1, o, e1, e2, hS, hm, hC1, hf⟩ := least_R 0 hr.1 hr.2.1 hL hC
  have ax := fq_X8_cheapest e1
  have am := fq_X10_leastMove e2
  cases o with
  | none =>
    refine q_no2 h00 1 (by decide) ax (fun _ _ _ _ => by omega) am (fun _ _ _ _ _ => by omega) ?_ ?_
    · unfold wL_nextMove fX9_nextMove
      rw [e1, bd_some, if_pos (show oI none = -1 from rfl), bx_inr, if_pos rfl]
    · unfold fX10_nextMove
      rw [e2, bd_some, if_neg (show ¬ 0 ≤ oI none by decide), m_fails, bd_some]
  | some f =>
    have hfm := hf f rfl
    refine q_ok h00 (nI f) ax (fun _ _ _ _ => by omega) (a_m0' am 0) (fun _ _ _ _ _ => by omega) ?_ ?_ (m00 _ _)
    · unfold wL_nextMove fX9_nextMove
      rw [e1, bd_some, if_neg (oI_m1 (by omega)), bx_inl]
      rfl
    · unfold fX10_nextMove
      rw [e2, bd_some, if_pos (show 0 ≤ oI (some f) from nI_pos' (by omega))]
      rfl
def dnO (p : Nat → Nat → Int32) (n k : Nat) (τ : Mem) : Option Nat → Option Nat
  | none => none
  | some f => if τ 143 f < cst p (p 1) n k then some f else none
theorem down_R {p : Nat → Nat → Int32} {n k it : Nat} {U : Nat → Nat → Nat} {bc kI : Int32} {σ τ : Mem} (hv : vld p n k) (hx : isX 1 σ p n k) (hL : LM p n k U it bc kI τ) (hC : CX n U it bc σ) : ∃ m σ' τ' o, fX8_downhill σ kI = some (oI (dnO p n k τ' o), σ') ∧ fX10_leastMove τ 1 = some (oI o, τ') ∧ LSt p n k U it bc kI m σ' τ' ∧ m ≤ 375 ∧ CX n U it bc σ' ∧ (∀ f, o = some f → f < m) := by
  obtain ⟨m, σ1, τ1, o, e1, e2, hS, hm, hC1, hf⟩ := least_R 1 hv hx hL hC
  cases o with
  | none =>
    refine ⟨m, σ1, τ1, none, ?_, e2, hS, hm, hC1, hf⟩
    unfold fX8_downhill fX8_downhill_L26
    rw [e1, bd_some, if_pos (show oI none = -1 from rfl)]
    rfl
  | some f =>
    have hfm := hf f rfl
    obtain ⟨σ2, f1, b1, f2, -⟩ := xlook hv hS hm hC1 hfm
    have hS2 := LSt_x hS b1
    obtain ⟨σ3, f3, b3⟩ := xpres hv hS2.1
    have b3' : A86 σ2 σ3 := ag_w b3 (fun _ _ h => Or.inl h)
    refine ⟨m, σ3, τ1, some f, ?_, e2, LSt_x hS2 b3', hm, CX_ag hC1 (a86_t b1 b3') (fun _ _ _ => by omega), hf⟩
    unfold fX8_downhill fX8_downhill_L26
    rw [e1, bd_some, if_neg (oI_m1 (by omega)), show oI (some f) = nI f from rfl, f1, bd_some, f3, bd_some]
    show (if τ1 143 f < cst p (p 1) n k then some (nI f, σ3) else some (-1, σ3)) = some (oI (if τ1 143 f < cst p (p 1) n k then some f else none), σ3)
    by_cases c : τ1 143 f < cst p (p 1) n k
    · rw [if_pos c, if_pos c]; rfl
    · rw [if_neg c, if_neg c]; rfl
theorem S_isLocalOptimum : Sim1 fX9_isLocalOptimum fX10_isLocalOptimum := by
  intro B σ τ hB h
  have h00 := h
  obtain ⟨p, n, k, bs, U, it, h⟩ := h
  have hr := h.2.1
  obtain ⟨hL, hC⟩ := R0_LM (by omega) (R0_0 h 0)
  obtain ⟨m, σ1, τ1, o, e1, e2, hS, hm, hC1, hf⟩ := down_R hr.1 hr.2.1 hL hC
  have ax := fq_X8_downhill e1
  have am0 := fq_X10_leastMove e2
  have am : Ag (fun c i => c = 124 ∧ i = 0 ∨ c = 124 ∧ i = 39 ∨ c = 131 ∨ 139 ≤ c ∧ c < 146) τ τ1 := ag_2 (a_m0 τ 0) (fun _ _ _ => by omega) am0 (fun _ _ _ => by omega)
  have t13 : τ1 124 13 = cst p (p 1) n k := (am _ _ (by omega)).trans h.2.2.2.1
  have hx : ∀ r : Int32, (if oI (dnO p n k τ1 o) = -1 then (1 : Int32) else 0) = r → fX9_isLocalOptimum σ = some (r, σ1) := fun r hr => by
    unfold fX9_isLocalOptimum
    rw [e1, bd_some, ← hr]
    by_cases c : oI (dnO p n k τ1 o) = -1
    · rw [if_pos c, if_pos c]
    · rw [if_neg c, if_neg c]
  cases o with
  | none =>
    refine q1_ok h00 1 ax (fun _ _ _ _ => by omega) am (fun _ _ _ _ _ => by omega) (hx _ rfl) ?_
    unfold fX10_isLocalOptimum fX10_isLocalOptimum_L28
    rw [lt_e2, e2, bd_some, if_pos (show oI none < 0 by decide)]
  | some f =>
    have hfm := hf f rfl
    have e3 : fX10_isLocalOptimum τ = if τ1 143 f < cst p (p 1) n k then some (0, τ1) else some (1, τ1) := by
      unfold fX10_isLocalOptimum fX10_isLocalOptimum_L28
      rw [lt_e2, e2, bd_some, show oI (some f) = nI f from rfl, if_neg (nI_pos (by omega)), ck_i (by omega) (by omega), cl_i (by omega), t13]
    by_cases c : τ1 143 f < cst p (p 1) n k
    · rw [if_pos c] at e3
      refine q1_ok h00 0 ax (fun _ _ _ _ => by omega) am (fun _ _ _ _ _ => by omega) (hx _ ?_) e3
      rw [show dnO p n k τ1 (some f) = some f from if_pos c, if_neg (oI_m1 (by omega))]
    · rw [if_neg c] at e3
      refine q1_ok h00 1 ax (fun _ _ _ _ => by omega) am (fun _ _ _ _ _ => by omega) (hx _ ?_) e3
      rw [show dnO p n k τ1 (some f) = none from if_neg c, if_pos (show oI none = -1 from rfl)]
