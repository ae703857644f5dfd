/-! PURE, 28: the least move on both sides; the calls that look at the moves -/
abbrev A86 (σ σ' : Mem) : Prop := Ag (fun c _ => c = 8 ∨ c = 86) σ σ'
theorem a86_t {σ σ' σ2 : Mem} (h : A86 σ σ') (h' : A86 σ' σ2) : A86 σ σ2 := ag_t h (fun _ _ h => h) h'
/-- what the class knows of bans and the best cost -/
def CX (n : Nat) (U : Nat → Nat → Nat) (it : Nat) (bc : Int32) (σ : Mem) : Prop := σ 84 7 = nI it ∧ (∀ v a, v < 10 ∧ v < n → a < 8 → U v a ≤ it + 21 ∧ σ (88 + v) a = nI (U v a)) ∧ σ 84 5 = bc
theorem CX_ag {n : Nat} {U : Nat → Nat → Nat} {it : Nat} {bc : Int32} {σ σ' : Mem} {W : Nat → Nat → Prop} (h : CX n U it bc σ) (a : Ag W σ σ') (s : ∀ c i, c = 84 ∧ i = 7 ∨ c = 84 ∧ i = 5 ∨ 88 ≤ c ∧ c < 98 → ¬ W c i) : CX n U it bc σ' := ⟨(a _ _ (s _ _ (by omega))).trans h.1, fun v b hv hb => ⟨(h.2.1 v b hv hb).1, (a _ _ (s _ _ (by omega))).trans (h.2.1 v b hv hb).2⟩, (a _ _ (s _ _ (by omega))).trans h.2.2⟩
theorem LSt_x {p : Nat → Nat → Int32} {n k it m : Nat} {U : Nat → Nat → Nat} {bc kI : Int32} {σ σ' τ : Mem} (h : LSt p n k U it bc kI m σ τ) (a : A86 σ σ') : LSt p n k U it bc kI m σ' τ := ⟨isX_ag h.1 a (fun _ _ _ => by omega), h.2.1, (a _ _ (by omega)).trans h.2.2.1, h.2.2.2.1, fun j hj => mvR_tr (h.2.2.2.2 j hj) ⟨a _ _ (by omega), a _ _ (by omega), a _ _ (by omega), a _ _ (by omega)⟩ ⟨rfl, rfl, rfl, rfl, rfl, rfl⟩⟩
/-- the cost behind the move j, and whether it is held, as the class finds them -/
theorem xlook {p : Nat → Nat → Int32} {n k it m j : Nat} {U : Nat → Nat → Nat} {bc kI : Int32} {σ τ : Mem} (hv : vld p n k) (h : LSt p n k U it bc kI m σ τ) (hm : m ≤ 375) (hC : CX n U it bc σ) (hj : j < m) : ∃ σ', fX8_costAfter σ (nI j) = some (τ 143 j, σ') ∧ A86 σ σ' ∧ fX8_isTrialHeld σ' (τ 143 j) = some (τ 145 j, σ') ∧ ∃ kd a b c, bstOk p n (aft p kd a b c) ∧ (∀ v, v < n → σ' 86 v = aft p kd a b c v) ∧ mvV n kd a b c ∧ τ 143 j = cst p (aft p kd a b c) n k ∧ τ 139 j = nI kd ∧ τ 140 j = nI a ∧ τ 141 j = nI b ∧ (kd = 3 → τ 142 j = nI c) := by
  obtain ⟨kd, a, b, c, h1, h2, ⟨x0, x1, x2, x3⟩, ⟨y0, y1, y2, y3⟩, y4, y5⟩ := h.2.2.2.2 j hj
  obtain ⟨σ', e1, r1, a1⟩ := xafter hv h.1 (show j < 375 by omega) h1 h2 x0 x1 x2 x3
  have hC' := CX_ag hC a1 (fun _ _ _ => by omega)
  have hit := h.2.1.2.2.1
  refine ⟨σ', by rw [y4]; exact e1, a1, ?_, kd, a, b, c, h2, r1, h1, y4, y0, y1, y2, fun e => y3.trans (x3 e)⟩
  rw [y4, y5]
  exact xheld hv (isX_ag h.1 a1 (fun _ _ _ => by omega)) r1 (bst_sml h2) hC'.1 (by omega) hC'.2.1 hC'.2.2
def hcn (τ : Mem) : Nat → Int32
  | 0 => 0
  | j + 1 => if τ 145 j = 0 then hcn τ j else hcn τ j + 1
theorem xhm_loop {p : Nat → Nat → Int32} {n k it m : Nat} {U : Nat → Nat → Nat} {bc kI : Int32} {τ : Mem} (hv : vld p n k) (hm : m ≤ 375) : ∀ (j i : Nat), i + j = m → ∀ N, j < N → ∀ σ, LSt p n k U it bc kI m σ τ → CX n U it bc σ → ∃ σ', fX8_heldMoves_L4 N σ (hcn τ i) (nI i) = some (hcn τ m, σ') := by
  intro j
  induction j with
  | zero =>
    intro i hi N hN σ h hC
    obtain ⟨N, rfl, hN⟩ := nsub1 hN
    have e : i = m := by omega
    subst e
    refine ⟨σ, ?_⟩
    rw [show fX8_heldMoves_L4 (N + 1) = fX8_heldMoves_B4 (fX8_heldMoves_L4 N) from rfl]
    unfold fX8_heldMoves_B4
    rw [h.2.2.1, if_pos ((le_i (by omega) (by omega)).2 (Nat.le_refl _))]
  | succ j ih =>
    intro i hi N hN σ h hC
    obtain ⟨N, rfl, hN⟩ := nsub1 hN
    obtain ⟨σ1, e1, a1, e2, -⟩ := xlook hv h hm hC (show i < m by omega)
    obtain ⟨σ2, e3⟩ := ih (i + 1) (by omega) N (by omega) σ1 (LSt_x h a1) (CX_ag hC a1 (fun _ _ _ => by omega))
    refine ⟨σ2, ?_⟩
    rw [show fX8_heldMoves_L4 (N + 1) = fX8_heldMoves_B4 (fX8_heldMoves_L4 N) from rfl]
    unfold fX8_heldMoves_B4 fX8_heldMoves_L32
    rw [h.2.2.1, if_neg (fun h => absurd ((le_i (by omega) (by omega)).1 h) (by omega)), e1, bd_some, e2, bd_some, nI_s, ← e3]
    rw [show hcn τ (i + 1) = if τ 145 i = 0 then hcn τ i else hcn τ i + 1 from rfl]
    by_cases c : τ 145 i = 0
    · rw [if_pos c, if_pos c]
    · rw [if_neg c, if_neg c]
theorem mhm_loop {m : Nat} {τ : Mem} (hm : m ≤ 375) (h39 : τ 124 39 = nI m) {b : Int32} : ∀ (j i : Nat), i + j = m → ∀ N, j < N → fX10_moves_L13 N τ b (if b = 0 then nI i else hcn τ i) (nI i) = some (if b = 0 then nI m else hcn τ m, τ) := by
  intro j
  induction j with
  | zero =>
    intro i hi N hN
    obtain ⟨N, rfl, hN⟩ := nsub1 hN
    have e : i = m := by omega
    subst e
    rw [show fX10_moves_L13 (N + 1) = fX10_moves_B13 (fX10_moves_L13 N) from rfl]
    unfold fX10_moves_B13
    rw [h39, if_pos ((le_i (by omega) (by omega)).2 (Nat.le_refl _))]
  | succ j ih =>
    intro i hi N hN
    obtain ⟨N, rfl, hN⟩ := nsub1 hN
    have e3 := ih (i + 1) (by omega) N (by omega)
    rw [show fX10_moves_L13 (N + 1) = fX10_moves_B13 (fX10_moves_L13 N) from rfl]
    unfold fX10_moves_B13 fX10_moves_L35 fX10_moves_L40
    rw [h39, if_neg (fun h => absurd ((le_i (by omega) (by omega)).1 h) (by omega)), ck_i (by omega) (by omega), cl_i (by omega), nI_s]
    rw [show hcn τ (i + 1) = if τ 145 i = 0 then hcn τ i else hcn τ i + 1 from rfl] at e3
    by_cases c : b = 0
    · simp only [if_pos c] at e3 ⊢
      rw [nI_s]; exact e3
    · simp only [if_neg c] at e3 ⊢
      by_cases d : τ 145 i = 0
      · rw [if_pos d] at e3 ⊢
        rw [Int32.add_zero]; exact e3
      · rw [if_neg d] at e3 ⊢
        exact e3
theorem R0_LM {B : Nat} {p : Nat → Nat → Int32} {n k : Nat} {bs : Nat → Int32} {U : Nat → Nat → Nat} {it : Nat} {σ τ : Mem} (hB : B ≤ 20000) (h : R0 B p n k bs U it σ τ) : LM p n k U it (cst p bs n k) (σ 83 0) τ ∧ CX n U it (cst p bs n k) σ := by
  obtain ⟨h0, h1, h2, h3, h4, h5, ⟨i1, i2, i3⟩, -⟩ := h
  exact ⟨⟨h1.2.2, i2, by omega, fun v a hv ha => ⟨(i3 v a hv ha).1, (i3 v a hv ha).2.2⟩, h2.2.2.2, (h5.1 0 (by omega)).symm⟩, i1, fun v a hv ha => ⟨(i3 v a hv ha).1, (i3 v a hv ha).2.1⟩, h2.2.2.1⟩
theorem S_moves (b : Int32) : Sim1 (fun σ => fX9_moves σ b) (fun τ => fX10_moves τ b) := by
  intro B σ τ hB h
  dsimp only
  have h00 := h
  obtain ⟨p, n, k, bs, U, it, h⟩ := h
  have hr := h.2.1
  obtain ⟨hL, hC⟩ := R0_LM (by omega) (R0_0 h 0)
  obtain ⟨m, σ1, τ1, e1, e2, hS, hm⟩ := fill_R hr.1 hr.2.1 hL
  have ax := fq_X3_fill e1
  have am := fq_X10_findMoves e2
  have hC1 := CX_ag hC ax (fun _ _ _ => by omega)
  have em := mhm_loop (b := b) hm hS.2.2.2.1 m 0 (by omega) FU (FU_lt (by omega))
  have am2 : Ag (fun c i => c = 124 ∧ i = 0 ∨ c = 124 ∧ i = 39 ∨ c = 131 ∨ 139 ≤ c ∧ c < 146) τ τ1 := ag_2 (a_m0 τ 0) (fun _ _ _ => by omega) am (fun _ _ _ => by omega)
  by_cases c : b = 0
  · simp only [if_pos c] at em
    refine q1_ok h00 (nI m) ax (fun _ _ _ _ => by omega) am2 (fun _ _ _ _ _ => by omega) ?_ ?_
    · unfold fX9_moves
      rw [e1, bv_some, if_pos c, hS.2.2.1]
    · unfold fX10_moves
      rw [lt_e2, e2, bv_some, ← nI_0]
      exact em
  · simp only [if_neg c] at em
    obtain ⟨σ2, e3⟩ := xhm_loop hr.1 hm m 0 (by omega) FU (FU_lt (by omega)) σ1 hS hC1
    have e3' : fX8_heldMoves σ1 = some (hcn τ1 m, σ2) := e3
    have a3 := fq_X8_heldMoves e3'
    refine q1_ok h00 (hcn τ1 m) (ag_2 (W2 := fun c i => c = 8 ∨ c = 86 ∨ c = 98 ∨ 100 ≤ c ∧ c < 104) ax (fun _ _ _ => by omega) a3 (fun _ _ _ => by omega)) (fun _ _ _ _ => by omega) am2 (fun _ _ _ _ _ => by omega) ?_ ?_
    · unfold fX9_moves
      rw [e1, bv_some, if_neg c, e3', bd_some]
    · unfold fX10_moves
      rw [lt_e2, e2, bv_some, ← nI_0]
      exact em
-- the least one
def oI : Option Nat → Int32
  | none => -1
  | some c => nI c
def oL (τ : Mem) : Option Nat → Int32
  | none => 0
  | some c => τ 143 c
/-- the move j may be taken -/
def mayI (τ : Mem) (al : Int32) (j : Nat) : Prop := al ≠ 0 ∨ τ 145 j = 0
def lmS (τ : Mem) (al : Int32) (o : Option Nat) (j : Nat) : Option Nat := if al = 0 ∧ τ 145 j ≠ 0 then o else match o with
  | none => some j
  | some f => if τ 143 f ≤ τ 143 j then some f else some j
def lmv (τ : Mem) (al : Int32) : Nat → Option Nat
  | 0 => none
  | j + 1 => lmS τ al (lmv τ al j) j
theorem lmv_lt (τ : Mem) (al : Int32) : ∀ j f, lmv τ al j = some f → f < j
  | 0, f, h => by cases h
  | j + 1, f, h => by
    have ih := lmv_lt τ al j
    have h2 : lmS τ al (lmv τ al j) j = some f := h
    unfold lmS at h2
    by_cases c : al = 0 ∧ τ 145 j ≠ 0
    · rw [if_pos c] at h2
      have := ih f h2
      omega
    · rw [if_neg c] at h2
      cases ho : lmv τ al j with
      | none =>
        rw [ho] at h2
        have : j = f := by simpa using h2
        omega
      | some g =>
        rw [ho] at h2
        have h3 : (if τ 143 g ≤ τ 143 j then some g else some j) = some f := h2
        by_cases d : τ 143 g ≤ τ 143 j
        · rw [if_pos d] at h3
          have e : g = f := by simpa using h3
          have := ih g ho
          omega
        · rw [if_neg d] at h3
          have : j = f := by simpa using h3
          omega
theorem oI_m1 {f : Nat} (h : f ≤ 1000000) : ¬ oI (some f) = -1 := nI_m1 h
theorem xch_loop {p : Nat → Nat → Int32} {n k it m : Nat} {U : Nat → Nat → Nat} {bc kI al : Int32} {τ : Mem} (hv : vld p n k) (hm : m ≤ 375) : ∀ (j i : Nat), i + j = m → ∀ N, j < N → ∀ σ, LSt p n k U it bc kI m σ τ → CX n U it bc σ → ∃ σ', fX8_cheapest_L18 N σ al (oI (lmv τ al i)) (oL τ (lmv τ al i)) (nI i) = some (oI (lmv τ al m), σ') ∧ A86 σ σ' := by
  intro j
  induction j with
  | zero =>
    intro i hi N hN σ h hC
    obtain ⟨N, rfl, hN⟩ := nsub1 hN
    have e : i = m := by omega
    subst e
    refine ⟨σ, ?_, ag_r⟩
    rw [show fX8_cheapest_L18 (N + 1) = fX8_cheapest_B18 (fX8_cheapest_L18 N) from rfl]
    unfold fX8_cheapest_B18
    rw [h.2.2.1, if_pos ((le_i (by omega) (by omega)).2 (Nat.le_refl _))]
  | succ j ih =>
    intro i hi N hN σ h hC
    obtain ⟨N, rfl, hN⟩ := nsub1 hN
    obtain ⟨σ1, e1, a1, e2, -⟩ := xlook hv h hm hC (show i < m by omega)
    obtain ⟨σ2, e3, a3⟩ := ih (i + 1) (by omega) N (by omega) σ1 (LSt_x h a1) (CX_ag hC a1 (fun _ _ _ => by omega))
    refine ⟨σ2, ?_, a86_t a1 a3⟩
    rw [show lmv τ al (i + 1) = lmS τ al (lmv τ al i) i from rfl] at e3
    have hlt := lmv_lt τ al i
    rw [show fX8_cheapest_L18 (N + 1) = fX8_cheapest_B18 (fX8_cheapest_L18 N) from rfl]
    unfold fX8_cheapest_B18 fX8_cheapest_L52 fX8_cheapest_L57 fX8_cheapest_L78 fX8_cheapest_L86
    rw [h.2.2.1, if_neg (fun h => absurd ((le_i (by omega) (by omega)).1 h) (by omega)), e1, bd_some, e2, nI_s]
    simp only [bd_some]
    rw [if_neg (show ¬ (1 : Int32) = 0 by decide), if_pos trivial]
    unfold lmS at e3
    cases ho : lmv τ al i with
    | none =>
      rw [ho] at e3
      rw [if_pos (show oI none = -1 from rfl)]
      by_cases c : al = 0
      · rw [if_pos c]
        by_cases d : τ 145 i = 0
        · rw [if_pos d]
          rw [if_neg (fun hh => hh.2 d)] at e3
          exact e3
        · rw [if_neg d]
          rw [if_pos ⟨c, d⟩] at e3
          exact e3
      · rw [if_neg c]
        rw [if_neg (fun hh => c hh.1)] at e3
        exact e3
    | some f =>
      have hf := hlt f ho
      rw [ho] at e3
      have e3' : fX8_cheapest_L18 N σ1 al (oI (if al = 0 ∧ τ 145 i ≠ 0 then some f else if τ 143 f ≤ τ 143 i then some f else some i)) (oL τ (if al = 0 ∧ τ 145 i ≠ 0 then some f else if τ 143 f ≤ τ 143 i then some f else some i)) (nI (i + 1)) = some (oI (lmv τ al m), σ2) := e3
      rw [if_neg (oI_m1 (by omega)), show oL τ (some f) = τ 143 f from rfl]
      by_cases g : τ 143 f ≤ τ 143 i
      · rw [if_pos g]
        rw [if_pos g, ite_self] at e3'
        exact e3'
      · rw [if_neg g]
        rw [if_neg g] at e3'
        by_cases c : al = 0
        · rw [if_pos c]
          by_cases d : τ 145 i = 0
          · rw [if_pos d]
            rw [if_neg (fun hh => hh.2 d)] at e3'
            exact e3'
          · rw [if_neg d]
            rw [if_pos ⟨c, d⟩] at e3'
            exact e3'
        · rw [if_neg c]
          rw [if_neg (fun hh => c hh.1)] at e3'
          exact e3'
theorem mlm_loop {m : Nat} {τ : Mem} {al : Int32} (hm : m ≤ 375) (h39 : τ 124 39 = nI m) : ∀ (j i : Nat), i + j = m → ∀ N, j < N → fX10_leastMove_L8 N τ al (oI (lmv τ al i)) (nI i) = some (oI (lmv τ al m), τ) := by
  intro j
  induction j with
  | zero =>
    intro i hi N hN
    obtain ⟨N, rfl, hN⟩ := nsub1 hN
    have e : i = m := by omega
    subst e
    rw [show fX10_leastMove_L8 (N + 1) = fX10_leastMove_B8 (fX10_leastMove_L8 N) from rfl]
    unfold fX10_leastMove_B8
    rw [h39, if_pos ((le_i (by omega) (by omega)).2 (Nat.le_refl _))]
  | succ j ih =>
    intro i hi N hN
    obtain ⟨N, rfl, hN⟩ := nsub1 hN
    have e3 := ih (i + 1) (by omega) N (by omega)
    rw [show lmv τ al (i + 1) = lmS τ al (lmv τ al i) i from rfl] at e3
    have hlt := lmv_lt τ al i
    rw [show fX10_leastMove_L8 (N + 1) = fX10_leastMove_B8 (fX10_leastMove_L8 N) from rfl]
    unfold fX10_leastMove_B8 fX10_leastMove_L29 fX10_leastMove_L48 fX10_leastMove_L52 fX10_leastMove_L53
    simp only [ck_i (show i < 400 by omega) (show 400 ≤ 1000000 by omega), cl_i (show i ≤ 1000000 by omega), nI_s]
    rw [h39, if_neg (fun h => absurd ((le_i (by omega) (by omega)).1 h) (by omega))]
    unfold lmS at e3
    cases ho : lmv τ al i with
    | none =>
      rw [ho] at e3
      rw [if_pos (show oI none < 0 by decide)]
      by_cases c : al = 0
      · rw [if_pos c]
        by_cases d : τ 145 i = 0
        · rw [if_pos d]
          rw [if_neg (fun hh => hh.2 d)] at e3
          exact e3
        · rw [if_neg d]
          rw [if_pos ⟨c, d⟩] at e3
          exact e3
      · rw [if_neg c]
        rw [if_neg (fun hh => c hh.1)] at e3
        exact e3
    | some f =>
      have hf := hlt f ho
      rw [ho] at e3
      have e3' : fX10_leastMove_L8 N τ al (oI (if al = 0 ∧ τ 145 i ≠ 0 then some f else if τ 143 f ≤ τ 143 i then some f else some i)) (nI (i + 1)) = some (oI (lmv τ al m), τ) := e3
      rw [show oI (some f) = nI f from rfl, if_neg (nI_pos (by omega)), ck_i (by omega) (by omega), cl_i (by omega)]
      by_cases g : τ 143 f ≤ τ 143 i
      · rw [if_pos g]
        rw [if_pos g, ite_self] at e3'
        rw [ite_self, ite_self]
        exact e3'
      · rw [if_neg g]
        rw [if_neg g] at e3'
        by_cases c : al = 0
        · rw [if_pos c]
          by_cases d : τ 145 i = 0
          · rw [if_pos d]
            rw [if_neg (fun hh => hh.2 d)] at e3'
            exact e3'
          · rw [if_neg d]
            rw [if_pos ⟨c, d⟩] at e3'
            exact e3'
        · rw [if_neg c]
          rw [if_neg (fun hh => c hh.1)] at e3'
          exact e3'
theorem least_R {p : Nat → Nat → Int32} {n k it : Nat} {U : Nat → Nat → Nat} {bc kI : Int32} {σ τ : Mem} (al : Int32) (hv : vld p n k) (hx : isX 1 σ p n k) (hL : LM p n k U it bc kI τ) (hC : CX n U it bc σ) : ∃ m σ' τ' o, fX8_cheapest σ kI al = some (oI o, σ') ∧ fX10_leastMove τ al = some (oI o, τ') ∧ LSt p n k U it bc kI m σ' τ' ∧ m ≤ 375 ∧ CX n U it bc σ' ∧ (∀ f, o = some f → f < m) := by
  obtain ⟨m, σ1, τ1, e1, e2, hS, hm⟩ := fill_R hv hx hL
  have ax := fq_X3_fill e1
  have hC1 := CX_ag hC ax (fun _ _ _ => by omega)
  obtain ⟨σ2, e3, a3⟩ := xch_loop (al := al) hv hm m 0 (by omega) FU (FU_lt (by omega)) σ1 hS hC1
  have e4 := mlm_loop (al := al) hm hS.2.2.2.1 m 0 (by omega) FU (FU_lt (by omega))
  refine ⟨m, σ2, τ1, lmv τ1 al m, ?_, ?_, LSt_x hS a3, hm, CX_ag hC1 a3 (fun _ _ _ => by omega), lmv_lt τ1 al m⟩
  · unfold fX8_cheapest
    rw [e1, bv_some, ← e3]
    rw [show oI (lmv τ1 al 0) = -1 from rfl, show oL τ1 (lmv τ1 al 0) = 0 from rfl, nI_0]
  · unfold fX10_leastMove
    rw [e2, bv_some, ← e4]
    rw [show oI (lmv τ1 al 0) = -1 from rfl, nI_0]
