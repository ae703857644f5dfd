/-! PURE, 17: more calls that change the problem -/
theorem xvar_ok {σ : Mem} {n v : Nat} (hn : n ≤ 10) (x1 : σ 1 7 = nI n) (hv : v < n) : fX9_checkVariable σ (nI v) = some (.inl (), σ) := by
  unfold fX9_checkVariable
  rw [if_neg (nI_pos (by omega)), x1, if_pos ((lt_i (by omega) (by omega)).2 hv)]
theorem xvar_no {σ : Mem} {n : Nat} (hn : n ≤ 10) (x1 : σ 1 7 = nI n) {a : Int32} (h : ∀ v, v < n → a ≠ nI v) : fX9_checkVariable σ a = some (.inr "java/lang/IndexOutOfBoundsException", σ) := by
  unfold fX9_checkVariable fX9_checkVariable_L15
  by_cases c : a < 0
  · rw [if_pos c]
  · rw [if_neg c]
    obtain ⟨j, hj, rfl⟩ := nI_of c
    rw [x1, if_neg (fun hh => h j ((nI_ltI hj (by omega)).1 hh) rfl)]
theorem mvar_ok {τ : Mem} {n v : Nat} (hn : n ≤ 10) (x1 : τ 124 7 = nI n) (hv : v < n) : fX10_isVariable τ (nI v) = some (1, τ) := by
  unfold fX10_isVariable
  rw [if_neg (nI_pos (by omega)), x1, if_neg (fun hh => absurd ((le_i (by omega) (by omega)).1 hh) (by omega))]
theorem mvar_no {τ : Mem} {n : Nat} (hn : n ≤ 10) (x1 : τ 124 7 = nI n) {a : Int32} (h : ∀ v, v < n → a ≠ nI v) : fX10_isVariable τ a = some (0, τ) := by
  unfold fX10_isVariable fX10_isVariable_L16
  by_cases c : a < 0
  · rw [if_pos c]
  · rw [if_neg c]
    obtain ⟨j, hj, rfl⟩ := nI_of c
    rw [x1, if_pos ((nI_leI (by omega) hj).2 (Nat.le_of_not_lt (fun hh => h j hh rfl)))]
theorem xcon_ok {σ : Mem} {k c : Nat} (hk : k ≤ 20) (x1 : σ 1 8 = nI k) (hc : c < k) : fX9_checkConstraint σ (nI c) = some (.inl (), σ) := by
  unfold fX9_checkConstraint
  rw [if_neg (nI_pos (by omega)), x1, if_pos ((lt_i (by omega) (by omega)).2 hc)]
theorem xcon_no {σ : Mem} {k : Nat} (hk : k ≤ 20) (x1 : σ 1 8 = nI k) {a : Int32} (h : ∀ v, v < k → a ≠ nI v) : fX9_checkConstraint σ a = some (.inr "java/lang/IndexOutOfBoundsException", σ) := by
  unfold fX9_checkConstraint fX9_checkConstraint_L15
  by_cases c : a < 0
  · rw [if_pos c]
  · rw [if_neg c]
    obtain ⟨j, hj, rfl⟩ := nI_of c
    rw [x1, if_neg (fun hh => h j ((nI_ltI hj (by omega)).1 hh) rfl)]
theorem mcon_ok {τ : Mem} {k c : Nat} (hk : k ≤ 20) (x1 : τ 124 8 = nI k) (hc : c < k) : fX10_isConstraint τ (nI c) = some (1, τ) := by
  unfold fX10_isConstraint
  rw [if_neg (nI_pos (by omega)), x1, if_neg (fun hh => absurd ((le_i (by omega) (by omega)).1 hh) (by omega))]
theorem mcon_no {τ : Mem} {k : Nat} (hk : k ≤ 20) (x1 : τ 124 8 = nI k) {a : Int32} (h : ∀ v, v < k → a ≠ nI v) : fX10_isConstraint τ a = some (0, τ) := by
  unfold fX10_isConstraint fX10_isConstraint_L16
  by_cases c : a < 0
  · rw [if_pos c]
  · rw [if_neg c]
    obtain ⟨j, hj, rfl⟩ := nI_of c
    rw [x1, if_pos ((nI_leI (by omega) hj).2 (Nat.le_of_not_lt (fun hh => h j hh rfl)))]
theorem inN (n : Nat) (a : Int32) : (∃ v, v < n ∧ a = nI v) ∨ ∀ v, v < n → a ≠ nI v := by
  by_cases h : ∃ v, v < n ∧ a = nI v
  · exact Or.inl h
  · exact Or.inr (fun v hv e => h ⟨v, hv, e⟩)
def pUpd (p : Nat → Nat → Int32) (r v : Nat) (x : Int32) : Nat → Nat → Int32 := fun j => if j = r then upd (p j) v x else p j
theorem S_setDomain (a b : Int32) : Sim (fun σ => wL_setDomain σ a b) (fun τ => fX10_setDomain τ a b) := by
  intro B σ τ hB h
  have h00 := h
  obtain ⟨p, n, k, bs, U, it, h⟩ := h
  have hr := h.2.1
  have hn := hr.1.1
  have x1 := hr.2.1.1
  have m1 := hr.2.2.1.1
  rcases inN n a with ⟨v, hv, rfl⟩ | ha
  · by_cases hb : (2 : Int32) ≤ b ∧ b ≤ 8
    · obtain ⟨s, hs1, hs2, rfl⟩ := rngN (lo := 2) (hi := 8) (by omega) hb.1 hb.2 (by omega)
      obtain ⟨-, g1, -, -, -, g5, -, g7, g8, g9, gA, -⟩ := R0_0 h 0
      obtain ⟨σ1, τ1, e1, e2, q1, q8, ax, am⟩ := rem_R g1 g8
      obtain ⟨hq, ⟨y1, y2, y3, y4⟩, ⟨w1, w2, w3, w4⟩, w5⟩ := q1
      obtain ⟨s0, w, hz1, hz2, hz3, hz4, hz5⟩ := hq.2.2.1 v hv
      generalize hw' : (if s ≤ w then s - 1 else w) = w'
      have hw's : w' < s := by rw [← hw']; by_cases c : s ≤ w; rw [if_pos c]; omega; rw [if_neg c]; omega
      have q2 : prb (pUpd (pUpd p 0 v (nI s)) 1 v (nI w')) n k (mst (mst σ1 2 v (nI s)) 3 v (nI w')) (mst (mst τ1 125 v (nI s)) 126 v (nI w')) := by
        refine ⟨⟨hq.1, hq.2.1, fun u hu => ?_, hq.2.2.2⟩, ⟨?_, ?_, fun u hu => ⟨?_, ?_⟩, fun c hc => y4 c hc⟩, ⟨?_, ?_, fun u hu => ?_, fun c hc => w4 c hc⟩, fun u hu => ?_⟩
        · show ∃ s' w'', 2 ≤ s' ∧ s' ≤ 8 ∧ w'' < s' ∧ upd (p 0) v (nI s) u = nI s' ∧ upd (p 1) v (nI w') u = nI w''
          by_cases e : u = v
          · rw [e, upd_at, upd_at]
            exact ⟨s, w', hs1, hs2, hw's, rfl, rfl⟩
          · rw [upd_ne _ _ e, upd_ne _ _ e]
            exact hq.2.2.1 u hu
        · exact y1
        · exact y2
        · exact upd_cong _ (fun e => (y3 u hu).1)
        · exact upd_cong _ (fun e => (y3 u hu).2)
        · exact w1
        · exact w2
        · exact upd_cong _ (fun e => w3 u hu)
        · exact upd_cong _ (fun e => w5 u hu)
      have ax2 : Ag (fun c i => c = 2 ∨ c = 3) σ1 (mst (mst σ1 2 v (nI s)) 3 v (nI w')) := ag_2 (ag_mst _ _ (W := fun c i => c = 2) rfl) (fun _ _ h => Or.inl h) (ag_mst _ _ (W := fun c i => c = 3) rfl) (fun _ _ h => Or.inr h)
      have am2 : Ag (fun c i => c = 125 ∨ c = 126) τ1 (mst (mst τ1 125 v (nI s)) 126 v (nI w')) := ag_2 (ag_mst _ _ (W := fun c i => c = 125) rfl) (fun _ _ h => Or.inl h) (ag_mst _ _ (W := fun c i => c = 126) rfl) (fun _ _ h => Or.inr h)
      obtain ⟨σ3, τ3, e5, e6, q3, ax3, am3⟩ := fin_R (B := B + 30) q2 (hiR_tr q8 ax2 (fun _ _ _ => by omega) am2 (fun _ _ _ => by omega)) g5 g7 g9 gA (ag_2 (W2 := fun c i => 17 ≤ c ∧ c < 82 ∨ 1 ≤ c ∧ c < 8) ax (fun _ _ _ => by omega) ax2 (fun _ _ _ => by omega)) (fun _ _ _ => by omega) (ag_2 (W2 := fun c i => c = 135 ∨ c = 124 ∧ i = 7 ∨ c = 124 ∧ 28 ≤ i ∧ i < 30 ∨ c = 124 ∧ i = 31 ∨ 125 ≤ c ∧ c < 131) am (fun _ _ _ => by omega) am2 (fun _ _ _ => by omega)) (fun _ _ _ => by omega)
      have z3 : τ3 124 0 = 0 := (am3 _ _ (by omega)).trans ((am2 _ _ (by omega)).trans ((am _ _ (by omega)).trans (by rw [mst_at, upd_at])))
      refine ⟨0, mst σ3 155 0 (nI s0), nI s0, τ3, ?_, ?_, RR_155 q3 _, z3, fun _ => by rw [mst_at, upd_at]⟩
      · show wL_setDomain σ (nI v) (nI s) = _
        unfold wL_setDomain fX9_setDomain fX9_checkSize
        simp only [lt]
        rw [xvar_ok hn x1 hv, bx_inl, xrange_ok σ hb.1 hb.2, bx_inl, bx_inl, e1, bv_some, ck_i (by omega) (by omega), ck_i (by omega) (by omega), ck_i (by omega) (by omega), ck_i (by omega) (by omega), cl_i (by omega), mst_ne _ _ _ (by decide : (3 : Nat) ≠ 2), (y3 v hv).2, hz5]
        have e : (if nI s - (1 : Int32) < nI w then nI s - (1 : Int32) else nI w) = nI w' := by
          rw [nI_d1 (by omega), ← hw']
          by_cases c : s ≤ w
          · rw [if_pos c, if_pos ((lt_i (by omega) (by omega)).2 (by omega))]
          · rw [if_neg c, if_neg (fun hh => absurd ((lt_i (by omega) (by omega)).1 hh) (by omega))]
        rw [e, e5, bv_some, bx_inl, (y3 v hv).1, hz4]
      · show fX10_setDomain τ (nI v) (nI s) = _
        unfold fX10_setDomain fX10_setDomain_L80
        simp only [lt]
        rw [mvar_ok hn m1 hv, bd_some, if_neg (by decide), mrange_ok τ hb.1 hb.2, bd_some, if_neg (by decide), e2, bv_some]
        simp only [ck_i (show v < 10 by omega) (show 10 ≤ 1000000 by omega), cl_i (show v ≤ 1000000 by omega)]
        rw [mst_ne _ _ _ (by decide : (126 : Nat) ≠ 125), w5 v hv, hz5, w3 v hv, hz4]
        by_cases c : s ≤ w
        · rw [if_pos c] at hw'
          rw [if_pos ((le_i (by omega) (by omega)).2 c), nI_d1 (by omega), hw', e6, bv_some]
        · rw [if_neg c] at hw'
          rw [if_neg (fun hh => c ((le_i (by omega) (by omega)).1 hh)), hw', e6, bv_some]
    · refine ⟨2, σ, 0, mst τ 124 0 2, ?_, ?_, RR_0 h00 2, by rw [mst_at, upd_at], fun h => absurd h (by decide)⟩
      · show wL_setDomain σ (nI v) b = _
        unfold wL_setDomain fX9_setDomain fX9_checkSize
        rw [xvar_ok hn x1 hv, bx_inl, xrange_no σ hb, bx_inr, bx_inr, bx_inr, if_neg (by decide), if_pos rfl]
      · show fX10_setDomain τ (nI v) b = _
        unfold fX10_setDomain
        rw [mvar_ok hn m1 hv, bd_some, if_neg (by decide), mrange_no τ hb, bd_some, if_pos rfl, m_fails, bd_some]
  · refine ⟨1, σ, 0, mst τ 124 0 1, ?_, ?_, RR_0 h00 1, by rw [mst_at, upd_at], fun h => absurd h (by decide)⟩
    · show wL_setDomain σ a b = _
      unfold wL_setDomain fX9_setDomain
      rw [xvar_no hn x1 ha, bx_inr, bx_inr, if_pos rfl]
    · show fX10_setDomain τ a b = _
      unfold fX10_setDomain
      rw [mvar_no hn m1 ha, bd_some, if_pos rfl, m_fails, bd_some]
theorem wtOk_of {b : Int32} (h : (1 : Int32) ≤ b ∧ b ≤ 9) : wtOk b := by
  obtain ⟨s, h1, h2, rfl⟩ := rngN (lo := 1) (hi := 9) (by omega) h.1 h.2 (by omega)
  exact ⟨s, h1, h2, rfl⟩
theorem S_setWeight (a b : Int32) : Sim (fun σ => wL_setWeight σ a b) (fun τ => fX10_setWeight τ a b) := by
  intro B σ τ hB h
  have h00 := h
  obtain ⟨p, n, k, bs, U, it, h⟩ := h
  have hr := h.2.1
  have hk := hr.1.2.1
  have x1 := hr.2.1.2.1
  have m1 := hr.2.2.1.2.1
  rcases inN k a with ⟨v, hv, rfl⟩ | ha
  · by_cases hb : (1 : Int32) ≤ b ∧ b ≤ 9
    · obtain ⟨-, g1, -, -, -, g5, -, g7, g8, g9, gA, -⟩ := R0_0 h 0
      obtain ⟨σ1, τ1, e1, e2, q1, q8, ax, am⟩ := rem_R g1 g8
      obtain ⟨hq, ⟨y1, y2, y3, y4⟩, ⟨w1, w2, w3, w4⟩, w5⟩ := q1
      have q2 : prb (pUpd p 5 v b) n k (mst σ1 7 v b) (mst τ1 130 v b) := by
        refine ⟨⟨hq.1, hq.2.1, hq.2.2.1, fun c hc => ?_⟩, ⟨y1, y2, y3, fun c hc => ⟨(y4 c hc).1, (y4 c hc).2.1, (y4 c hc).2.2.1, ?_⟩⟩, ⟨w1, w2, w3, fun c hc => ⟨(w4 c hc).1, (w4 c hc).2.1, (w4 c hc).2.2.1, ?_⟩⟩, w5⟩
        · show kdOk (p 2 c) ∧ mkOk (p 3 c) n ∧ nuOk (p 4 c) ∧ wtOk (upd (p 5) v b c)
          obtain ⟨u1, u2, u3, u4⟩ := hq.2.2.2 c hc
          refine ⟨u1, u2, u3, ?_⟩
          by_cases e : c = v
          · rw [e, upd_at]; exact wtOk_of hb
          · rw [upd_ne _ _ e]; exact u4
        · exact upd_cong _ (fun e => (y4 c hc).2.2.2)
        · exact upd_cong _ (fun e => (w4 c hc).2.2.2)
      have ax2 : Ag (fun c i => c = 7) σ1 (mst σ1 7 v b) := ag_mst _ _ rfl
      have am2 : Ag (fun c i => c = 130) τ1 (mst τ1 130 v b) := ag_mst _ _ rfl
      obtain ⟨σ3, τ3, e5, e6, q3, ax3, am3⟩ := fin_R (B := B + 30) q2 (hiR_tr q8 ax2 (fun _ _ _ => by omega) am2 (fun _ _ _ => by omega)) g5 g7 g9 gA (ag_2 (W2 := fun c i => 17 ≤ c ∧ c < 82 ∨ 1 ≤ c ∧ c < 8) ax (fun _ _ _ => by omega) ax2 (fun _ _ _ => by omega)) (fun _ _ _ => by omega) (ag_2 (W2 := fun c i => c = 135 ∨ c = 124 ∧ i = 7 ∨ c = 124 ∧ 28 ≤ i ∧ i < 30 ∨ c = 124 ∧ i = 31 ∨ 125 ≤ c ∧ c < 131) am (fun _ _ _ => by omega) am2 (fun _ _ _ => by omega)) (fun _ _ _ => by omega)
      have z3 : τ3 124 0 = 0 := (am3 _ _ (by omega)).trans ((am2 _ _ (by omega)).trans ((am _ _ (by omega)).trans (by rw [mst_at, upd_at])))
      refine ⟨0, mst σ3 155 0 (p 5 v), p 5 v, τ3, ?_, ?_, RR_155 q3 _, z3, fun _ => by rw [mst_at, upd_at]⟩
      · show wL_setWeight σ (nI v) b = _
        unfold wL_setWeight fX9_setWeight
        simp only [lt]
        rw [xcon_ok hk x1 hv, bx_inl, xrange_ok σ hb.1 hb.2, bx_inl, e1, bv_some, ck_i (by omega) (by omega), ck_i (by omega) (by omega), cl_i (by omega), e5, bv_some, bx_inl]
        rw [show σ1 7 v = p 5 v from (y4 v hv).2.2.2]
      · show fX10_setWeight τ (nI v) b = _
        unfold fX10_setWeight
        simp only [lt]
        rw [mcon_ok hk m1 hv, bd_some, if_neg (by decide), mrange_ok τ hb.1 hb.2, bd_some, if_neg (by decide), e2, bv_some, ck_i (by omega) (by omega), ck_i (by omega) (by omega), cl_i (by omega), e6, bv_some, (w4 v hv).2.2.2]
    · refine ⟨2, σ, 0, mst τ 124 0 2, ?_, ?_, RR_0 h00 2, by rw [mst_at, upd_at], fun h => absurd h (by decide)⟩
      · show wL_setWeight σ (nI v) b = _
        unfold wL_setWeight fX9_setWeight
        rw [xcon_ok hk x1 hv, bx_inl, xrange_no σ hb, bx_inr, bx_inr, if_neg (by decide), if_pos rfl]
      · show fX10_setWeight τ (nI v) b = _
        unfold fX10_setWeight
        rw [mcon_ok hk m1 hv, bd_some, if_neg (by decide), mrange_no τ hb, bd_some, if_pos rfl, m_fails, bd_some]
  · refine ⟨1, σ, 0, mst τ 124 0 1, ?_, ?_, RR_0 h00 1, by rw [mst_at, upd_at], fun h => absurd h (by decide)⟩
    · show wL_setWeight σ a b = _
      unfold wL_setWeight fX9_setWeight
      rw [xcon_no hk x1 ha, bx_inr, bx_inr, if_pos rfl]
    · show fX10_setWeight τ a b = _
      unfold fX10_setWeight
      rw [mcon_no hk m1 ha, bd_some, if_pos rfl, m_fails, bd_some]
theorem in_iff {τ : Mem} {v s : Nat} (hv : v < 10) (hs : s ≤ 8) (h : τ 125 v = nI s) (b : Int32) : (∃ w, w < s ∧ b = nI w ∧ fX10_isIn τ (nI v) b = some (1, τ)) ∨ ((∀ w, w < s → b ≠ nI w) ∧ fX10_isIn τ (nI v) b = some (0, τ)) := by
  unfold fX10_isIn fX10_isIn_L18
  by_cases c : b < 0
  · right
    refine ⟨fun w hw e => ?_, by rw [if_pos c]⟩
    rw [e] at c
    exact nI_pos (by omega) c
  · rw [if_neg c, ck_i hv (by omega), cl_i (by omega), h]
    obtain ⟨j, hj, rfl⟩ := nI_of c
    by_cases hjs : s ≤ j
    · right
      refine ⟨fun w hw e => ?_, by rw [if_pos ((nI_leI (by omega) hj).2 hjs)]⟩
      have := (nI_eq hj (by omega)).1 e
      omega
    · left
      exact ⟨j, by omega, rfl, by rw [if_neg (fun hh => hjs ((nI_leI (by omega) hj).1 hh))]⟩
theorem range0_ok {σ : Mem} {w s : Nat} (hs : 1 ≤ s) (hs8 : s ≤ 1000) (hw : w < s) : fX9_checkRange σ (nI w) 0 (nI s - 1) = some (.inl (), σ) := by
  rw [nI_d1 hs]
  exact xrange_ok σ (nI_pos' (by omega)) ((le_i (by omega) (by omega)).2 (by omega))
theorem range0_no {σ : Mem} {b : Int32} {s : Nat} (hs : 1 ≤ s) (hs8 : s ≤ 1000) (hw : ∀ w, w < s → b ≠ nI w) : fX9_checkRange σ b 0 (nI s - 1) = some (.inr "java/lang/IllegalArgumentException", σ) := by
  rw [nI_d1 hs]
  refine xrange_no σ (fun ⟨h1, h2⟩ => ?_)
  obtain ⟨j, hj1, hj2, rfl⟩ := rngN (lo := 0) (hi := s - 1) (by omega) h1 h2 (by omega)
  exact hw j (by omega) rfl
theorem S_setValue (a b : Int32) : Sim (fun σ => wL_setValue σ a b) (fun τ => fX10_setValue τ a b) := by
  intro B σ τ hB h
  have h00 := h
  obtain ⟨p, n, k, bs, U, it, h⟩ := h
  have hr := h.2.1
  have hn := hr.1.1
  have x1 := hr.2.1.1
  have m1 := hr.2.2.1.1
  rcases inN n a with ⟨v, hv, rfl⟩ | ha
  · obtain ⟨s, w0, hs1, hs2, hw0, hz4, hz5⟩ := hr.1.2.2.1 v hv
    have x2 : σ 2 v = nI s := ((hr.2.1.2.2.1 v hv).1).trans hz4
    have m2 : τ 125 v = nI s := (hr.2.2.1.2.2.1 v hv).trans hz4
    rcases in_iff (by omega) hs2 m2 b with ⟨w, hw, rfl, hin⟩ | ⟨hb, hin⟩
    · obtain ⟨-, g1, -, -, -, g5, -, g7, g8, g9, gA, -⟩ := R0_0 h 0
      obtain ⟨hq, ⟨y1, y2, y3, y4⟩, ⟨w1, w2, w3, w4⟩, w5⟩ := g1
      have q2 : prb (pUpd p 1 v (nI w)) n k (mst σ 3 v (nI w)) (mst (mst τ 124 0 0) 126 v (nI w)) := by
        refine ⟨⟨hq.1, hq.2.1, fun u hu => ?_, hq.2.2.2⟩, ⟨y1, y2, fun u hu => ⟨(y3 u hu).1, ?_⟩, y4⟩, ⟨w1, w2, w3, w4⟩, fun u hu => ?_⟩
        · show ∃ s' w'', 2 ≤ s' ∧ s' ≤ 8 ∧ w'' < s' ∧ p 0 u = nI s' ∧ upd (p 1) v (nI w) u = nI w''
          by_cases e : u = v
          · rw [e, upd_at]
            exact ⟨s, w, hs1, hs2, hw, hz4, rfl⟩
          · rw [upd_ne _ _ e]
            exact hq.2.2.1 u hu
        · exact upd_cong _ (fun e => (y3 u hu).2)
        · exact upd_cong _ (fun e => w5 u hu)
      have ax2 : Ag (fun c i => c = 3) σ (mst σ 3 v (nI w)) := ag_mst _ _ rfl
      have am2 : Ag (fun c i => c = 126) (mst τ 124 0 0) (mst (mst τ 124 0 0) 126 v (nI w)) := ag_mst _ _ rfl
      obtain ⟨σ3, τ3, e5, e6, q3, ax3, am3⟩ := fin_R (B := B + 30) q2 (hiR_tr g8 ax2 (fun _ _ _ => by omega) am2 (fun _ _ _ => by omega)) g5 g7 g9 gA ax2 (fun _ _ _ => by omega) am2 (fun _ _ _ => by omega)
      have z3 : τ3 124 0 = 0 := (am3 _ _ (by omega)).trans ((am2 _ _ (by omega)).trans (by rw [mst_at, upd_at]))
      refine ⟨0, mst σ3 155 0 (nI w0), nI w0, τ3, ?_, ?_, RR_155 q3 _, z3, fun _ => by rw [mst_at, upd_at]⟩
      · show wL_setValue σ (nI v) (nI w) = _
        unfold wL_setValue fX9_setValue
        simp only [lt]
        rw [xvar_ok hn x1 hv, bx_inl, ck_i (by omega) (by omega), cl_i (by omega), x2, range0_ok (by omega) (by omega) hw, bx_inl, ck_i (by omega) (by omega), ck_i (by omega) (by omega), e5, bv_some, bx_inl, (y3 v hv).2, hz5]
      · show fX10_setValue τ (nI v) (nI w) = _
        unfold fX10_setValue
        simp only [lt]
        rw [mvar_ok hn m1 hv, bd_some, if_neg (by decide), hin, bd_some, if_neg (by decide), ck_i (by omega) (by omega), ck_i (by omega) (by omega), cl_i (by omega), e6, bv_some, w5 v hv, hz5]
    · refine ⟨2, σ, 0, mst τ 124 0 2, ?_, ?_, RR_0 h00 2, by rw [mst_at, upd_at], fun h => absurd h (by decide)⟩
      · show wL_setValue σ (nI v) b = _
        unfold wL_setValue fX9_setValue
        rw [xvar_ok hn x1 hv, bx_inl, ck_i (by omega) (by omega), cl_i (by omega), x2, range0_no (by omega) (by omega) hb, bx_inr, bx_inr, if_neg (by decide), if_pos rfl]
      · show fX10_setValue τ (nI v) b = _
        unfold fX10_setValue
        rw [mvar_ok hn m1 hv, bd_some, if_neg (by decide), hin, bd_some, if_pos rfl, m_fails, bd_some]
  · refine ⟨1, σ, 0, mst τ 124 0 1, ?_, ?_, RR_0 h00 1, by rw [mst_at, upd_at], fun h => absurd h (by decide)⟩
    · show wL_setValue σ a b = _
      unfold wL_setValue fX9_setValue
      rw [xvar_no hn x1 ha, bx_inr, bx_inr, if_pos rfl]
    · show fX10_setValue τ a b = _
      unfold fX10_setValue
      rw [mvar_no hn m1 ha, bd_some, if_pos rfl, m_fails, bd_some]
