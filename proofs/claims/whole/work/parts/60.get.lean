/-! PURE, 20: questions about the problem -/
theorem isX_ag {b : Nat} {σ σ' : Mem} {p : Nat → Nat → Int32} {n k : Nat} {W : Nat → Nat → Prop} (h : isX b σ p n k) (a : Ag W σ σ') (s : ∀ c i, c = b ∧ i = 7 ∨ c = b ∧ i = 8 ∨ b + 1 ≤ c ∧ c < b + 7 → ¬ W c i) : isX b σ' p n k := isX_tr h (a _ _ (s _ _ (by omega))) (a _ _ (s _ _ (by omega))) (fun c i _ _ => a _ _ (s _ _ (by omega)))
theorem isM0_ag {τ τ' : Mem} {p : Nat → Nat → Int32} {n k : Nat} {W : Nat → Nat → Prop} (h : isM0 τ p n k) (a : Ag W τ τ') (s : ∀ c i, c = 124 ∧ i = 7 ∨ c = 124 ∧ i = 8 ∨ c = 125 ∨ 127 ≤ c ∧ c < 131 → ¬ W c i) : isM0 τ' p n k := isM0_tr h (a _ _ (s _ _ (by omega))) (a _ _ (s _ _ (by omega))) (fun i => a _ _ (s _ _ (by omega))) (fun c i _ _ => a _ _ (s _ _ (by omega)))
theorem isM_ag {τ τ' : Mem} {p : Nat → Nat → Int32} {n k : Nat} {W : Nat → Nat → Prop} (h : isM τ p n k) (a : Ag W τ τ') (s : ∀ c i, DMp c i → ¬ W c i) : isM τ' p n k := ⟨isM0_ag h.1 a (fun c i h => s c i (by omega)), fun v hv => (a _ _ (s _ _ (by omega))).trans (h.2 v hv)⟩
abbrev A8 (σ σ' : Mem) : Prop := Ag (fun c _ => c = 8) σ σ'
abbrev A131 (σ σ' : Mem) : Prop := Ag (fun c _ => c = 131) σ σ'
theorem a8_t {σ σ' σ2 : Mem} (h : A8 σ σ') (h' : A8 σ' σ2) : A8 σ σ2 := ag_t h (fun _ _ h => h) h'
theorem a131_t {σ σ' σ2 : Mem} (h : A131 σ σ') (h' : A131 σ' σ2) : A131 σ σ2 := ag_t h (fun _ _ h => h) h'
def vcn (p : Nat → Nat → Int32) (row : Nat → Int32) (n : Nat) : Nat → Int32
  | 0 => 0
  | c + 1 => if vioP p row n c ≤ 0 then vcn p row n c else vcn p row n c + 1
theorem xvc_loop {σ : Mem} {p : Nat → Nat → Int32} {n k : Nat} (hv : vld p n k) (hx : isX 1 σ p n k) : ∀ (j c : Nat), c + j = k → ∀ N, j < N → ∀ σ', A8 σ σ' → ∃ σ2, fX4_violatedConstraints_L4 N σ' (vcn p (p 1) n c) (nI c) = some (vcn p (p 1) n k, σ2) ∧ A8 σ σ2 := by
  have hk := hv.2.1
  intro j
  induction j with
  | zero =>
    intro c hc N hN σ' a
    obtain ⟨N, rfl, hN⟩ := nsub1 hN
    have e : c = k := by omega
    subst e
    have hx' := isX_ag hx a (fun _ _ _ => by omega)
    refine ⟨σ', ?_, a⟩
    rw [show fX4_violatedConstraints_L4 (N + 1) = fX4_violatedConstraints_B4 (fX4_violatedConstraints_L4 N) from rfl]
    unfold fX4_violatedConstraints_B4
    rw [hx'.2.1, if_pos ((le_i (by omega) (by omega)).2 (Nat.le_refl _))]
  | succ j ih =>
    intro c hc N hN σ' a
    obtain ⟨N, rfl, hN⟩ := nsub1 hN
    have hx' := isX_ag hx a (fun _ _ _ => by omega)
    obtain ⟨σ1, e1, a1⟩ := xvioP (q := 3) (by decide) hv hx' (row := p 1) (fun v hv' => (hx'.2.2.1 v hv').2) (vld_sml hv) (c := c) (by omega)
    obtain ⟨σ2, e2, a2⟩ := ih (c + 1) (by omega) N (by omega) σ1 (a8_t a a1)
    refine ⟨σ2, ?_, a2⟩
    rw [show fX4_violatedConstraints_L4 (N + 1) = fX4_violatedConstraints_B4 (fX4_violatedConstraints_L4 N) from rfl]
    unfold fX4_violatedConstraints_B4 fX4_violatedConstraints_L27
    rw [hx'.2.1, if_neg (fun h => absurd ((le_i (by omega) (by omega)).1 h) (by omega)), e1, bd_some, nI_s]
    rw [show vcn p (p 1) n (c + 1) = if vioP p (p 1) n c ≤ 0 then vcn p (p 1) n c else vcn p (p 1) n c + 1 from rfl] at e2
    by_cases h : vioP p (p 1) n c ≤ 0
    · rw [if_pos h]; rw [if_pos h] at e2; exact e2
    · rw [if_neg h]; rw [if_neg h] at e2; exact e2
theorem mvc_loop {τ : Mem} {p : Nat → Nat → Int32} {n k : Nat} (hv : vld p n k) (hx : isM τ p n k) : ∀ (j c : Nat), c + j = k → ∀ N, j < N → ∀ τ', A131 τ τ' → ∃ τ2, fX10_count_L60 N τ' (vcn p (p 1) n c) (nI c) = some (vcn p (p 1) n k, τ2) ∧ A131 τ τ2 := by
  have hk := hv.2.1
  intro j
  induction j with
  | zero =>
    intro c hc N hN τ' a
    obtain ⟨N, rfl, hN⟩ := nsub1 hN
    have e : c = k := by omega
    subst e
    have hx' := isM_ag hx a (fun _ _ _ => by omega)
    refine ⟨τ', ?_, a⟩
    rw [show fX10_count_L60 (N + 1) = fX10_count_B60 (fX10_count_L60 N) from rfl]
    unfold fX10_count_B60
    rw [hx'.1.2.1, if_pos ((le_i (by omega) (by omega)).2 (Nat.le_refl _))]
  | succ j ih =>
    intro c hc N hN τ' a
    obtain ⟨N, rfl, hN⟩ := nsub1 hN
    have hx' := isM_ag hx a (fun _ _ _ => by omega)
    obtain ⟨τ1, e1, a1⟩ := mvioP (q := 126) (by decide) hv hx'.1 (row := p 1) hx'.2 (vld_sml hv) (c := c) (by omega)
    obtain ⟨τ2, e2, a2⟩ := ih (c + 1) (by omega) N (by omega) τ1 (a131_t a a1)
    refine ⟨τ2, ?_, a2⟩
    rw [show fX10_count_L60 (N + 1) = fX10_count_B60 (fX10_count_L60 N) from rfl]
    unfold fX10_count_B60 fX10_count_L86
    rw [hx'.1.2.1, if_neg (fun h => absurd ((le_i (by omega) (by omega)).1 h) (by omega)), e1, bd_some, nI_s]
    rw [show vcn p (p 1) n (c + 1) = if vioP p (p 1) n c ≤ 0 then vcn p (p 1) n c else vcn p (p 1) n c + 1 from rfl] at e2
    by_cases h : vioP p (p 1) n c ≤ 0
    · rw [if_pos h, Int32.add_zero]; rw [if_pos h] at e2; exact e2
    · rw [if_neg h]; rw [if_neg h] at e2; exact e2
def cmb' (p : Nat → Nat → Int32) : Nat → Int32
  | 0 => 1
  | v + 1 => cmb' p v * p 0 v
theorem xcmb_loop {σ : Mem} {p : Nat → Nat → Int32} {n k : Nat} (hn : n ≤ 10) (hx : isX 1 σ p n k) : ∀ (j v : Nat), v + j = n → ∀ N, j < N → fX4_combinations_L4 N σ (cmb' p v) (nI v) = some (cmb' p n, σ) := by
  intro j
  induction j with
  | zero =>
    intro v hv N hN
    obtain ⟨N, rfl, hN⟩ := nsub1 hN
    have e : v = n := by omega
    subst e
    rw [show fX4_combinations_L4 (N + 1) = fX4_combinations_B4 (fX4_combinations_L4 N) from rfl]
    unfold fX4_combinations_B4
    rw [hx.1, if_pos ((le_i (by omega) (by omega)).2 (Nat.le_refl _))]
  | succ j ih =>
    intro v hv N hN
    obtain ⟨N, rfl, hN⟩ := nsub1 hN
    rw [show fX4_combinations_L4 (N + 1) = fX4_combinations_B4 (fX4_combinations_L4 N) from rfl]
    unfold fX4_combinations_B4 li
    rw [hx.1, if_neg (fun h => absurd ((le_i (by omega) (by omega)).1 h) (by omega)), ck_i (by omega) (by omega), cl_i (by omega), nI_s]
    rw [show σ 2 v = p 0 v from (hx.2.2.1 v (by omega)).1]
    exact ih (v + 1) (by omega) N (by omega)
theorem xcmb_eq {σ : Mem} {p : Nat → Nat → Int32} {n k : Nat} (hn : n ≤ 10) (hx : isX 1 σ p n k) : fX4_combinations σ = some (cmb' p n, σ) := xcmb_loop hn hx n 0 (by omega) FU (FU_lt (by omega))
theorem mcmb_loop {τ : Mem} {p : Nat → Nat → Int32} {n k : Nat} (hn : n ≤ 10) (hx : isM0 τ p n k) : ∀ (j v : Nat), v + j = n → ∀ N, j < N → fX10_combinations_L4 N τ (cmb' p v) (nI v) = some (cmb' p n, τ) := by
  intro j
  induction j with
  | zero =>
    intro v hv N hN
    obtain ⟨N, rfl, hN⟩ := nsub1 hN
    have e : v = n := by omega
    subst e
    rw [show fX10_combinations_L4 (N + 1) = fX10_combinations_B4 (fX10_combinations_L4 N) from rfl]
    unfold fX10_combinations_B4
    rw [hx.1, if_pos ((le_i (by omega) (by omega)).2 (Nat.le_refl _))]
  | succ j ih =>
    intro v hv N hN
    obtain ⟨N, rfl, hN⟩ := nsub1 hN
    rw [show fX10_combinations_L4 (N + 1) = fX10_combinations_B4 (fX10_combinations_L4 N) from rfl]
    unfold fX10_combinations_B4 li
    rw [hx.1, if_neg (fun h => absurd ((le_i (by omega) (by omega)).1 h) (by omega)), ck_i (by omega) (by omega), cl_i (by omega), nI_s, hx.2.2.1 v (by omega)]
    exact ih (v + 1) (by omega) N (by omega)
theorem mcmb_eq {τ : Mem} {p : Nat → Nat → Int32} {n k : Nat} (hn : n ≤ 10) (hx : isM0 τ p n k) : fX10_combinations τ = some (cmb' p n, τ) := mcmb_loop hn hx n 0 (by omega) FU (FU_lt (by omega))
theorem wh_range (τ : Mem) {b : Int32} {m : Nat} (hm : m ≤ 1000) : (∃ j, j ≤ m ∧ b = nI j ∧ fX10_isBetween τ b 0 (nI m) = some (1, τ)) ∨ ((∀ j, j ≤ m → b ≠ nI j) ∧ fX10_isBetween τ b 0 (nI m) = some (0, τ)) := by
  by_cases h : (0 : Int32) ≤ b ∧ b ≤ nI m
  · left
    obtain ⟨j, -, h2, rfl⟩ := rngN (lo := 0) (hi := m) (by omega) h.1 h.2 (by omega)
    exact ⟨j, h2, rfl, mrange_ok τ h.1 h.2⟩
  · right
    refine ⟨fun j hj e => h ?_, mrange_no τ h⟩
    rw [e]
    exact ⟨nI_pos' (by omega), (le_i (by omega) (by omega)).2 hj⟩
/-- both sides answer r and change only what questions change -/
theorem q_ok {B : Nat} {σ τ σ1 τ1 : Mem} {W W' : Nat → Nat → Prop} {X F : Option (Int32 × Mem)} (h : RR B σ τ) (r : Int32) (a : Ag W σ σ1) (s : ∀ c i, c < 124 → ¬ (c = 8 ∨ c = 86 ∨ c = 98 ∨ 100 ≤ c ∧ c < 104 ∨ c = 114 ∨ c = 122 ∨ c = 123) → ¬ W c i) (a' : Ag W' τ τ1) (s' : ∀ c i, 124 ≤ c → c < 155 → ¬ (c = 124 ∧ i = 0 ∨ c = 124 ∧ 39 ≤ i ∧ i < 46 ∨ c = 124 ∧ i = 57 ∨ c = 131 ∨ 139 ≤ c ∧ c < 148 ∨ c = 154) → ¬ W' c i) (hx : X = some (0, mst σ1 155 0 r)) (hf : F = some (r, τ1)) (h0 : τ1 124 0 = 0) : ∃ k σ1 b τ1, X = some (k, σ1) ∧ F = some (b, τ1) ∧ RR (B + 30) σ1 τ1 ∧ τ1 124 0 = k ∧ (k = 0 → σ1 155 0 = b) :=
  ⟨0, _, r, τ1, hx, hf, RR_155 (RR_mono (RR_tr h a s a' s') (by omega)) _, h0, fun _ => by rw [mst_at, upd_at]⟩
/-- both sides refuse -/
theorem q_no {B : Nat} {σ τ : Mem} {X F : Option (Int32 × Mem)} (h : RR B σ τ) (k : Int32) (hk : k ≠ 0) (hx : X = some (k, σ)) (hf : F = some (0, mst τ 124 0 k)) : ∃ k σ1 b τ1, X = some (k, σ1) ∧ F = some (b, τ1) ∧ RR (B + 30) σ1 τ1 ∧ τ1 124 0 = k ∧ (k = 0 → σ1 155 0 = b) :=
  ⟨k, σ, 0, _, hx, hf, RR_0 h k, by rw [mst_at, upd_at], fun h => absurd h hk⟩
abbrev Wn : Nat → Nat → Prop := fun c _ => c < 0
abbrev W0 : Nat → Nat → Prop := fun c i => c = 124 ∧ i = 0
theorem a_m0 (τ : Mem) (x : Int32) : Ag W0 τ (mst τ 124 0 x) := ag_mst _ _ ⟨rfl, rfl⟩
theorem m00 (τ : Mem) (x : Int32) : (mst τ 124 0 x) 124 0 = x := by rw [mst_at, upd_at]
theorem m0n (τ : Mem) (x : Int32) {i : Nat} (h : i ≠ 0) : (mst τ 124 0 x) 124 i = τ 124 i := by rw [mst_at, upd_ne _ _ h]
theorem S_count (b : Int32) : Sim (fun σ => wL_count σ b) (fun τ => fX10_count τ b) := by
  intro B σ τ hB h
  dsimp only
  have h00 := h
  obtain ⟨p, n, k, bs, U, it, h⟩ := h
  have hr := h.2.1
  rcases wh_range τ (b := b) (m := 3) (by omega) with ⟨j, hj, rfl, hin⟩ | ⟨hb, hin⟩
  · have hin' : fX10_isBetween τ (nI j) 0 3 = some (1, τ) := hin
    have hm : isM (mst τ 124 0 0) p n k := isM_ag hr.2.2 (a_m0 τ 0) (fun _ _ _ => by omega)
    match j, hj with
    | 0, _ =>
      refine q_ok h00 (nI n) (σ1 := σ) (ag_r (W := Wn)) (fun _ _ _ _ => by omega) (a_m0 τ 0) (fun _ _ _ _ _ => by omega) ?_ ?_ (m00 _ _)
      · unfold wL_count fX9_count; rw [if_pos (by decide), bx_inl, hr.2.1.1]
      · unfold fX10_count; simp only [lt]; rw [hin', bd_some, if_neg (by decide), if_pos (by decide), m0n _ _ (by decide), hr.2.2.1.1]
    | 1, _ =>
      refine q_ok h00 (nI k) (σ1 := σ) (ag_r (W := Wn)) (fun _ _ _ _ => by omega) (a_m0 τ 0) (fun _ _ _ _ _ => by omega) ?_ ?_ (m00 _ _)
      · unfold wL_count fX9_count; rw [if_neg (by decide), if_pos (by decide), bx_inl, hr.2.1.2.1]
      · unfold fX10_count; simp only [lt]; rw [hin', bd_some, if_neg (by decide), if_neg (by decide), if_pos (by decide), m0n _ _ (by decide), hr.2.2.1.2.1]
    | 2, _ =>
      obtain ⟨σ1, e1, a1⟩ := xvc_loop hr.1 hr.2.1 k 0 (by omega) FU (FU_lt (Nat.lt_of_le_of_lt hr.1.2.1 (by omega))) σ ag_r
      obtain ⟨τ1, e2, a2⟩ := mvc_loop hr.1 hm k 0 (by omega) FU (FU_lt (Nat.lt_of_le_of_lt hr.1.2.1 (by omega))) _ ag_r
      refine q_ok h00 (vcn p (p 1) n k) a1 (fun _ _ _ _ => by omega) (ag_2 (W2 := fun c i => c = 124 ∧ i = 0 ∨ c = 131) (a_m0 τ 0) (fun _ _ h => Or.inl h) a2 (fun _ _ h => Or.inr h)) (fun _ _ _ _ _ => by omega) ?_ ?_ ((a2 _ _ (by omega)).trans (m00 _ _))
      · unfold wL_count fX9_count fX4_violatedConstraints
        rw [if_neg (by decide), if_neg (by decide), if_pos (by decide), show fX4_violatedConstraints_L4 FU σ 0 0 = _ from e1, bd_some, bx_inl]
      · unfold fX10_count; simp only [lt]
        rw [hin', bd_some, if_neg (by decide), if_neg (by decide), if_neg (by decide), if_pos (by decide), show fX10_count_L60 FU (mst τ 124 0 0) 0 0 = _ from e2]
    | 3, _ =>
      refine q_ok h00 (cmb' p n) (σ1 := σ) (ag_r (W := Wn)) (fun _ _ _ _ => by omega) (a_m0 τ 0) (fun _ _ _ _ _ => by omega) ?_ ?_ (m00 _ _)
      · unfold wL_count fX9_count; rw [if_neg (by decide), if_neg (by decide), if_neg (by decide), if_pos (by decide), xcmb_eq hr.1.1 hr.2.1, bd_some, bx_inl]
      · unfold fX10_count; simp only [lt]; rw [hin', bd_some, if_neg (by decide), if_neg (by decide), if_neg (by decide), if_neg (by decide), mcmb_eq hr.1.1 hm.1, bd_some]
  · have hin' : fX10_isBetween τ b 0 3 = some (0, τ) := hin
    refine q_no h00 1 (by decide) ?_ ?_
    · unfold wL_count fX9_count
      rw [if_neg (show ¬ b = (0 : Int32) from hb 0 (by omega)), if_neg (show ¬ b = (1 : Int32) from hb 1 (by omega)), if_neg (show ¬ b = (2 : Int32) from hb 2 (by omega)), if_neg (show ¬ b = (3 : Int32) from hb 3 (by omega)), bx_inr, if_pos (by decide)]
    · unfold fX10_count
      rw [hin', bd_some, if_pos (by decide), m_fails, bd_some]
theorem S_constraint (a b : Int32) : Sim (fun σ => wL_constraint σ a b) (fun τ => fX10_constraint τ a b) := by
  intro B σ τ hB h
  dsimp only
  have h00 := h
  obtain ⟨p, n, k, bs, U, it, h⟩ := h
  have hr := h.2.1
  have hk := hr.1.2.1
  rcases inN k a with ⟨c, hc, rfl⟩ | ha
  · obtain ⟨y1, y2, y3, y4⟩ := hr.2.1.2.2.2 c hc
    obtain ⟨w1, w2, w3, w4⟩ := hr.2.2.1.2.2.2 c hc
    rcases wh_range τ (b := b) (m := 3) (by omega) with ⟨j, hj, rfl, hin⟩ | ⟨hb, hin⟩
    · have hin' : fX10_isBetween τ (nI j) 0 3 = some (1, τ) := hin
      match j, hj with
      | 0, _ =>
        refine q_ok h00 (p 2 c) (σ1 := σ) (ag_r (W := Wn)) (fun _ _ _ _ => by omega) (a_m0 τ 0) (fun _ _ _ _ _ => by omega) ?_ ?_ (m00 _ _)
        · unfold wL_constraint fX9_constraint; rw [xcon_ok hk hr.2.1.2.1 hc, bx_inl, if_pos (by decide), ck_i (by omega) (by omega), bx_inl, cl_i (by omega)]; rw [show σ 4 c = p 2 c from y1]
        · unfold fX10_constraint; simp only [lt]; rw [mcon_ok hk hr.2.2.1.2.1 hc, bd_some, if_neg (by decide), hin', bd_some, if_neg (by decide), if_pos (by decide), ck_i (by omega) (by omega), cl_i (by omega), mst_ne _ _ _ (by decide : (127 : Nat) ≠ 124), w1]
      | 1, _ =>
        refine q_ok h00 (p 3 c) (σ1 := σ) (ag_r (W := Wn)) (fun _ _ _ _ => by omega) (a_m0 τ 0) (fun _ _ _ _ _ => by omega) ?_ ?_ (m00 _ _)
        · unfold wL_constraint fX9_constraint; rw [xcon_ok hk hr.2.1.2.1 hc, bx_inl, if_neg (by decide), if_pos (by decide), ck_i (by omega) (by omega), bx_inl, cl_i (by omega)]; rw [show σ 5 c = p 3 c from y2]
        · unfold fX10_constraint; simp only [lt]; rw [mcon_ok hk hr.2.2.1.2.1 hc, bd_some, if_neg (by decide), hin', bd_some, if_neg (by decide), if_neg (by decide), if_pos (by decide), ck_i (by omega) (by omega), cl_i (by omega), mst_ne _ _ _ (by decide : (128 : Nat) ≠ 124), w2]
      | 2, _ =>
        refine q_ok h00 (p 4 c) (σ1 := σ) (ag_r (W := Wn)) (fun _ _ _ _ => by omega) (a_m0 τ 0) (fun _ _ _ _ _ => by omega) ?_ ?_ (m00 _ _)
        · unfold wL_constraint fX9_constraint; rw [xcon_ok hk hr.2.1.2.1 hc, bx_inl, if_neg (by decide), if_neg (by decide), if_pos (by decide), ck_i (by omega) (by omega), bx_inl, cl_i (by omega)]; rw [show σ 6 c = p 4 c from y3]
        · unfold fX10_constraint; simp only [lt]; rw [mcon_ok hk hr.2.2.1.2.1 hc, bd_some, if_neg (by decide), hin', bd_some, if_neg (by decide), if_neg (by decide), if_neg (by decide), if_pos (by decide), ck_i (by omega) (by omega), cl_i (by omega), mst_ne _ _ _ (by decide : (129 : Nat) ≠ 124), w3]
      | 3, _ =>
        refine q_ok h00 (p 5 c) (σ1 := σ) (ag_r (W := Wn)) (fun _ _ _ _ => by omega) (a_m0 τ 0) (fun _ _ _ _ _ => by omega) ?_ ?_ (m00 _ _)
        · unfold wL_constraint fX9_constraint; rw [xcon_ok hk hr.2.1.2.1 hc, bx_inl, if_neg (by decide), if_neg (by decide), if_neg (by decide), if_pos (by decide), ck_i (by omega) (by omega), bx_inl, cl_i (by omega)]; rw [show σ 7 c = p 5 c from y4]
        · unfold fX10_constraint; simp only [lt]; rw [mcon_ok hk hr.2.2.1.2.1 hc, bd_some, if_neg (by decide), hin', bd_some, if_neg (by decide), if_neg (by decide), if_neg (by decide), if_neg (by decide), ck_i (by omega) (by omega), cl_i (by omega), mst_ne _ _ _ (by decide : (130 : Nat) ≠ 124), w4]
    · have hin' : fX10_isBetween τ b 0 3 = some (0, τ) := hin
      refine q_no h00 2 (by decide) ?_ ?_
      · unfold wL_constraint fX9_constraint
        rw [xcon_ok hk hr.2.1.2.1 hc, bx_inl, if_neg (show ¬ b = (0 : Int32) from hb 0 (by omega)), if_neg (show ¬ b = (1 : Int32) from hb 1 (by omega)), if_neg (show ¬ b = (2 : Int32) from hb 2 (by omega)), if_neg (show ¬ b = (3 : Int32) from hb 3 (by omega)), bx_inr, if_neg (by decide), if_pos (by decide)]
      · unfold fX10_constraint
        rw [mcon_ok hk hr.2.2.1.2.1 hc, bd_some, if_neg (by decide), hin', bd_some, if_pos (by decide), m_fails, bd_some]
  · refine q_no h00 1 (by decide) ?_ ?_
    · unfold wL_constraint fX9_constraint
      rw [xcon_no hk hr.2.1.2.1 ha, bx_inr, bx_inr, if_pos (by decide)]
    · unfold fX10_constraint
      rw [mcon_no hk hr.2.2.1.2.1 ha, bd_some, if_pos (by decide), m_fails, bd_some]
