/-! PURE, 21: more questions; settings; text; best -/
def cfl (p : Nat → Nat → Int32) (row : Nat → Int32) (n v : Nat) : Nat → Int32
  | 0 => 0
  | c + 1 => bif hb (p 3 c) v then cfl p row n v c + p 5 c * vioP p row n c else cfl p row n v c
theorem cfl_t {p : Nat → Nat → Int32} {row : Nat → Int32} {n v c : Nat} (h : hb (p 3 c) v = true) : cfl p row n v (c + 1) = cfl p row n v c + p 5 c * vioP p row n c := by
  show (bif hb (p 3 c) v then _ else _) = _
  rw [h]; rfl
theorem cfl_f {p : Nat → Nat → Int32} {row : Nat → Int32} {n v c : Nat} (h : hb (p 3 c) v = false) : cfl p row n v (c + 1) = cfl p row n v c := by
  show (bif hb (p 3 c) v then _ else _) = _
  rw [h]; rfl
theorem xmem_t {σ : Mem} {c v : Nat} (hc : c < 20) (h : hb (σ 5 c) v = true) : fX4_isMember σ (nI v) (nI c) = some (1, σ) := by
  unfold fX4_isMember
  rw [ck_i hc (by omega), cl_i (by omega), ite_t h]
theorem xmem_f {σ : Mem} {c v : Nat} (hc : c < 20) (h : hb (σ 5 c) v = false) : fX4_isMember σ (nI v) (nI c) = some (0, σ) := by
  unfold fX4_isMember
  rw [ck_i hc (by omega), cl_i (by omega), ite_f h]
theorem xcf_loop {σ : Mem} {p : Nat → Nat → Int32} {n k v : Nat} (hv : vld p n k) (hx : isX 1 σ p n k) : ∀ (j c : Nat), c + j = k → ∀ N, j < N → ∀ σ', A8 σ σ' → ∃ σ2, fX4_conflictOf_L4 N σ' (nI v) (cfl p (p 1) n v c) (nI c) = some (cfl p (p 1) n v k, σ2) ∧ A8 σ σ2 := by
  have hk := hv.2.1
  intro j
  induction j with
  | zero =>
    intro c hc N hN σ' a
    obtain ⟨N, rfl, hN⟩ := nsub1 hN
    have e : c = k := by omega
    subst e
    have hx' := isX_ag hx a (fun _ _ _ => by omega)
    refine ⟨σ', ?_, a⟩
    rw [show fX4_conflictOf_L4 (N + 1) = fX4_conflictOf_B4 (fX4_conflictOf_L4 N) from rfl]
    unfold fX4_conflictOf_B4
    rw [hx'.2.1, if_pos ((le_i (by omega) (by omega)).2 (Nat.le_refl _))]
  | succ j ih =>
    intro c hc N hN σ' a
    obtain ⟨N, rfl, hN⟩ := nsub1 hN
    have hx' := isX_ag hx a (fun _ _ _ => by omega)
    have h5 : σ' 5 c = p 3 c := (hx'.2.2.2 c (by omega)).2.1
    have h7 : σ' 7 c = p 5 c := (hx'.2.2.2 c (by omega)).2.2.2
    cases hh : hb (p 3 c) v with
    | true =>
      obtain ⟨σ1, e1, a1⟩ := xvioP (q := 3) (by decide) hv hx' (row := p 1) (fun v hv' => (hx'.2.2.1 v hv').2) (vld_sml hv) (c := c) (by omega)
      obtain ⟨σ2, e2, a2⟩ := ih (c + 1) (by omega) N (by omega) σ1 (a8_t a a1)
      refine ⟨σ2, ?_, a2⟩
      rw [show fX4_conflictOf_L4 (N + 1) = fX4_conflictOf_B4 (fX4_conflictOf_L4 N) from rfl]
      unfold fX4_conflictOf_B4 fX4_conflictOf_L40 li
      rw [hx'.2.1, if_neg (fun h => absurd ((le_i (by omega) (by omega)).1 h) (by omega)), xmem_t (by omega) (by rw [h5]; exact hh), bd_some, if_neg (by decide), ck_i (by omega) (by omega), e1, bd_some, cl_i (by omega), h7, nI_s]
      rw [cfl_t hh] at e2
      exact e2
    | false =>
      obtain ⟨σ2, e2, a2⟩ := ih (c + 1) (by omega) N (by omega) σ' a
      refine ⟨σ2, ?_, a2⟩
      rw [show fX4_conflictOf_L4 (N + 1) = fX4_conflictOf_B4 (fX4_conflictOf_L4 N) from rfl]
      unfold fX4_conflictOf_B4 fX4_conflictOf_L40 li
      rw [hx'.2.1, if_neg (fun h => absurd ((le_i (by omega) (by omega)).1 h) (by omega)), xmem_f (by omega) (by rw [h5]; exact hh), bd_some, if_pos (by decide), nI_s]
      rw [cfl_f hh] at e2
      exact e2
theorem xcf_eq {σ : Mem} {p : Nat → Nat → Int32} {n k : Nat} (v : Nat) (hv : vld p n k) (hx : isX 1 σ p n k) : ∃ σ2, fX4_conflictOf σ (nI v) = some (cfl p (p 1) n v k, σ2) ∧ A8 σ σ2 := xcf_loop hv hx k 0 (by omega) FU (FU_lt (Nat.lt_of_le_of_lt hv.2.1 (by omega))) σ ag_r
theorem mcf_loop {τ : Mem} {p : Nat → Nat → Int32} {n k v : Nat} (hv : vld p n k) (hx : isM τ p n k) : ∀ (j c : Nat), c + j = k → ∀ N, j < N → ∀ τ', A131 τ τ' → ∃ τ2, fX10_conflictOf_L4 N τ' (nI v) (cfl p (p 1) n v c) (nI c) = some (cfl p (p 1) n v k, τ2) ∧ A131 τ τ2 := by
  have hk := hv.2.1
  intro j
  induction j with
  | zero =>
    intro c hc N hN τ' a
    obtain ⟨N, rfl, hN⟩ := nsub1 hN
    have e : c = k := by omega
    subst e
    have hx' := isM_ag hx a (fun _ _ _ => by omega)
    refine ⟨τ', ?_, a⟩
    rw [show fX10_conflictOf_L4 (N + 1) = fX10_conflictOf_B4 (fX10_conflictOf_L4 N) from rfl]
    unfold fX10_conflictOf_B4
    rw [hx'.1.2.1, if_pos ((le_i (by omega) (by omega)).2 (Nat.le_refl _))]
  | succ j ih =>
    intro c hc N hN τ' a
    obtain ⟨N, rfl, hN⟩ := nsub1 hN
    have hx' := isM_ag hx a (fun _ _ _ => by omega)
    have h5 : τ' 128 c = p 3 c := (hx'.1.2.2.2 c (by omega)).2.1
    have h7 : τ' 130 c = p 5 c := (hx'.1.2.2.2 c (by omega)).2.2.2
    cases hh : hb (p 3 c) v with
    | true =>
      obtain ⟨τ1, e1, a1⟩ := mvioP (q := 126) (by decide) hv hx'.1 (row := p 1) hx'.2 (vld_sml hv) (c := c) (by omega)
      obtain ⟨τ2, e2, a2⟩ := ih (c + 1) (by omega) N (by omega) τ1 (a131_t a a1)
      refine ⟨τ2, ?_, a2⟩
      rw [show fX10_conflictOf_L4 (N + 1) = fX10_conflictOf_B4 (fX10_conflictOf_L4 N) from rfl]
      unfold fX10_conflictOf_B4 fX10_conflictOf_L46
      rw [hx'.1.2.1, if_neg (fun h => absurd ((le_i (by omega) (by omega)).1 h) (by omega)), ck_i (by omega) (by omega), cl_i (by omega), h5, has_t _ hh, bd_some, if_neg (by decide), ck_i (by omega) (by omega), e1, bd_some, h7, nI_s]
      rw [cfl_t hh] at e2
      exact e2
    | false =>
      obtain ⟨τ2, e2, a2⟩ := ih (c + 1) (by omega) N (by omega) τ' a
      refine ⟨τ2, ?_, a2⟩
      rw [show fX10_conflictOf_L4 (N + 1) = fX10_conflictOf_B4 (fX10_conflictOf_L4 N) from rfl]
      unfold fX10_conflictOf_B4 fX10_conflictOf_L46
      rw [hx'.1.2.1, if_neg (fun h => absurd ((le_i (by omega) (by omega)).1 h) (by omega)), ck_i (by omega) (by omega), cl_i (by omega), h5, has_f _ hh, bd_some, if_pos (by decide), Int32.add_zero, nI_s]
      rw [cfl_f hh] at e2
      exact e2
theorem mcf_eq {τ : Mem} {p : Nat → Nat → Int32} {n k : Nat} (v : Nat) (hv : vld p n k) (hx : isM τ p n k) : ∃ τ2, fX10_conflictOf τ (nI v) = some (cfl p (p 1) n v k, τ2) ∧ A131 τ τ2 := mcf_loop hv hx k 0 (by omega) FU (FU_lt (Nat.lt_of_le_of_lt hv.2.1 (by omega))) τ ag_r
def mbn (p : Nat → Nat → Int32) (v : Nat) : Nat → Int32
  | 0 => 0
  | c + 1 => bif hb (p 3 c) v then mbn p v c + 1 else mbn p v c
theorem mbn_t {p : Nat → Nat → Int32} {v c : Nat} (h : hb (p 3 c) v = true) : mbn p v (c + 1) = mbn p v c + 1 := by
  show (bif hb (p 3 c) v then _ else _) = _
  rw [h]; rfl
theorem mbn_f {p : Nat → Nat → Int32} {v c : Nat} (h : hb (p 3 c) v = false) : mbn p v (c + 1) = mbn p v c := by
  show (bif hb (p 3 c) v then _ else _) = _
  rw [h]; rfl
theorem xmb_loop {σ : Mem} {p : Nat → Nat → Int32} {n k v : Nat} (hk : k ≤ 20) (hx : isX 1 σ p n k) : ∀ (j c : Nat), c + j = k → ∀ N, j < N → fX4_membershipsOf_L4 N σ (nI v) (mbn p v c) (nI c) = some (mbn p v k, σ) := by
  intro j
  induction j with
  | zero =>
    intro c hc N hN
    obtain ⟨N, rfl, hN⟩ := nsub1 hN
    have e : c = k := by omega
    subst e
    rw [show fX4_membershipsOf_L4 (N + 1) = fX4_membershipsOf_B4 (fX4_membershipsOf_L4 N) from rfl]
    unfold fX4_membershipsOf_B4
    rw [hx.2.1, if_pos ((le_i (by omega) (by omega)).2 (Nat.le_refl _))]
  | succ j ih =>
    intro c hc N hN
    obtain ⟨N, rfl, hN⟩ := nsub1 hN
    have h5 : σ 5 c = p 3 c := (hx.2.2.2 c (by omega)).2.1
    have e2 := ih (c + 1) (by omega) N (by omega)
    rw [show fX4_membershipsOf_L4 (N + 1) = fX4_membershipsOf_B4 (fX4_membershipsOf_L4 N) from rfl]
    unfold fX4_membershipsOf_B4 fX4_membershipsOf_L24
    rw [hx.2.1, if_neg (fun h => absurd ((le_i (by omega) (by omega)).1 h) (by omega))]
    cases hh : hb (p 3 c) v with
    | true =>
      rw [xmem_t (by omega) (by rw [h5]; exact hh), bd_some, if_neg (by decide), nI_s]
      rw [mbn_t hh] at e2
      exact e2
    | false =>
      rw [xmem_f (by omega) (by rw [h5]; exact hh), bd_some, if_pos (by decide), nI_s]
      rw [mbn_f hh] at e2
      exact e2
/-- what the reference answers of a variable, by its loop over the constraints first -/
theorem mvr_loop {τ : Mem} {p : Nat → Nat → Int32} {n k v : Nat} (what : Int32) (hk : k ≤ 20) (hx : isM τ p n k) : ∀ (j c : Nat), c + j = k → ∀ N, j < N → ∃ N', fX10_variable_L39 N τ (nI v) what (mbn p v c) (nI c) = fX10_variable_B39 (fX10_variable_L39 N') τ (nI v) what (mbn p v k) (nI k) := by
  intro j
  induction j with
  | zero =>
    intro c hc N hN
    obtain ⟨N, rfl, hN⟩ := nsub1 hN
    have e : c = k := by omega
    subst e
    exact ⟨N, rfl⟩
  | succ j ih =>
    intro c hc N hN
    obtain ⟨N, rfl, hN⟩ := nsub1 hN
    have h5 : τ 128 c = p 3 c := (hx.1.2.2.2 c (by omega)).2.1
    obtain ⟨N', e2⟩ := ih (c + 1) (by omega) N (by omega)
    refine ⟨N', ?_⟩
    rw [← e2]
    rw [show fX10_variable_L39 (N + 1) = fX10_variable_B39 (fX10_variable_L39 N) from rfl]
    rw [show fX10_variable_B39 (fX10_variable_L39 N) τ (nI v) what (mbn p v c) (nI c) = (if (τ 124 8) ≤ nI c then _ else ck (nI c) 20 (bd (fX10_has τ (τ 128 (nI c).toNatClampNeg) (nI v)) fun v9 σ9 => if v9 = 0 then fX10_variable_L68 (fX10_variable_L39 N) σ9 (nI v) what (nI c) (mbn p v c) 0 else fX10_variable_L68 (fX10_variable_L39 N) σ9 (nI v) what (nI c) (mbn p v c) 1)) from rfl]
    unfold fX10_variable_L68
    rw [hx.1.2.1, if_neg (fun h => absurd ((le_i (by omega) (by omega)).1 h) (by omega)), ck_i (by omega) (by omega), cl_i (by omega), h5]
    cases hh : hb (p 3 c) v with
    | true => rw [has_t _ hh, bd_some, if_neg (by decide), nI_s, mbn_t hh]
    | false => rw [has_f _ hh, bd_some, if_pos (by decide), Int32.add_zero, nI_s, mbn_f hh]
theorem S_variable (a b : Int32) : Sim (fun σ => wL_variable σ a b) (fun τ => fX10_variable τ a b) := by
  intro B σ τ hB h
  dsimp only
  have h00 := h
  obtain ⟨p, n, k, bs, U, it, h⟩ := h
  have hr := h.2.1
  have hn := hr.1.1
  have hk := hr.1.2.1
  rcases inN n a with ⟨v, hv, rfl⟩ | ha
  · obtain ⟨y1, y2⟩ := hr.2.1.2.2.1 v hv
    have w1 := hr.2.2.1.2.2.1 v hv
    have w2 := hr.2.2.2 v hv
    obtain ⟨b1, b2⟩ := h.2.2.1.2.1 v hv
    rcases wh_range τ (b := b) (m := 4) (by omega) with ⟨j, hj, rfl, hin⟩ | ⟨hb, hin⟩
    · have hin' : fX10_isBetween τ (nI j) 0 4 = some (1, τ) := hin
      have hm : isM (mst τ 124 0 0) p n k := isM_ag hr.2.2 (a_m0 τ 0) (fun _ _ _ => by omega)
      obtain ⟨N', eN⟩ := mvr_loop (v := v) (nI j) hk hm k 0 (by omega) FU (FU_lt (by omega))
      have eN' : fX10_variable τ (nI v) (nI j) = fX10_variable_B39 (fX10_variable_L39 N') (mst τ 124 0 0) (nI v) (nI j) (mbn p v k) (nI k) := by
        rw [← eN]
        unfold fX10_variable; simp only [lt]
        rw [mvar_ok hn hr.2.2.1.1 hv, bd_some, if_neg (by decide), hin', bd_some, if_neg (by decide)]
        rfl
      have h8 : (mst τ 124 0 0) 124 8 = nI k := hm.1.2.1
      clear eN hin
      match j, hj with
      | 0, _ =>
        refine q_ok h00 (p 0 v) (σ1 := σ) (ag_r (W := Wn)) (fun _ _ _ _ => by omega) (a_m0 τ 0) (fun _ _ _ _ _ => by omega) ?_ ?_ (m00 _ _)
        · unfold wL_variable fX9_variable; rw [xvar_ok hn hr.2.1.1 hv, bx_inl, if_pos (by decide), ck_i (by omega) (by omega), bx_inl, cl_i (by omega)]; rw [show σ 2 v = p 0 v from y1]
        · refine eN'.trans ?_
          unfold fX10_variable_B39
          rw [h8, if_pos ((le_i (by omega) (by omega)).2 (Nat.le_refl _)), if_pos (by decide), ck_i (by omega) (by omega), cl_i (by omega), mst_ne _ _ _ (by decide : (125 : Nat) ≠ 124), w1]
      | 1, _ =>
        refine q_ok h00 (p 1 v) (σ1 := σ) (ag_r (W := Wn)) (fun _ _ _ _ => by omega) (a_m0 τ 0) (fun _ _ _ _ _ => by omega) ?_ ?_ (m00 _ _)
        · unfold wL_variable fX9_variable; rw [xvar_ok hn hr.2.1.1 hv, bx_inl, if_neg (by decide), if_pos (by decide), ck_i (by omega) (by omega), bx_inl, cl_i (by omega)]; rw [show σ 3 v = p 1 v from y2]
        · refine eN'.trans ?_
          unfold fX10_variable_B39
          rw [h8, if_pos ((le_i (by omega) (by omega)).2 (Nat.le_refl _)), if_neg (by decide), if_pos (by decide), ck_i (by omega) (by omega), cl_i (by omega), mst_ne _ _ _ (by decide : (126 : Nat) ≠ 124), w2]
      | 2, _ =>
        refine q_ok h00 (bs v) (σ1 := σ) (ag_r (W := Wn)) (fun _ _ _ _ => by omega) (a_m0 τ 0) (fun _ _ _ _ _ => by omega) ?_ ?_ (m00 _ _)
        · unfold wL_variable fX9_variable; rw [xvar_ok hn hr.2.1.1 hv, bx_inl, if_neg (by decide), if_neg (by decide), if_pos (by decide), ck_i (by omega) (by omega), bx_inl, cl_i (by omega), b1]
        · refine eN'.trans ?_
          unfold fX10_variable_B39
          rw [h8, if_pos ((le_i (by omega) (by omega)).2 (Nat.le_refl _)), if_neg (by decide), if_neg (by decide), if_pos (by decide), ck_i (by omega) (by omega), cl_i (by omega), mst_ne _ _ _ (by decide : (132 : Nat) ≠ 124), b2]
      | 3, _ =>
        obtain ⟨σ1, e1, a1⟩ := xcf_eq v hr.1 hr.2.1
        obtain ⟨τ1, e2, a2⟩ := mcf_eq v hr.1 hm
        refine q_ok h00 (cfl p (p 1) n v k) a1 (fun _ _ _ _ => by omega) (ag_2 (W2 := fun c i => c = 124 ∧ i = 0 ∨ c = 131) (a_m0 τ 0) (fun _ _ h => Or.inl h) a2 (fun _ _ h => Or.inr h)) (fun _ _ _ _ _ => by omega) ?_ ?_ ((a2 _ _ (by omega)).trans (m00 _ _))
        · unfold wL_variable fX9_variable; rw [xvar_ok hn hr.2.1.1 hv, bx_inl, if_neg (by decide), if_neg (by decide), if_neg (by decide), if_pos (by decide), e1, bd_some, bx_inl]
        · refine eN'.trans ?_
          unfold fX10_variable_B39
          rw [h8, if_pos ((le_i (by omega) (by omega)).2 (Nat.le_refl _)), if_neg (by decide), if_neg (by decide), if_neg (by decide), if_pos (by decide), e2, bd_some]
      | 4, _ =>
        refine q_ok h00 (mbn p v k) (σ1 := σ) (ag_r (W := Wn)) (fun _ _ _ _ => by omega) (a_m0 τ 0) (fun _ _ _ _ _ => by omega) ?_ ?_ (m00 _ _)
        · unfold wL_variable fX9_variable fX4_membershipsOf
          rw [xvar_ok hn hr.2.1.1 hv, bx_inl, if_neg (by decide), if_neg (by decide), if_neg (by decide), if_neg (by decide), if_pos (by decide), show fX4_membershipsOf_L4 FU σ (nI v) 0 0 = _ from xmb_loop hk hr.2.1 k 0 (by omega) FU (FU_lt (by omega)), bd_some, bx_inl]
        · refine eN'.trans ?_
          unfold fX10_variable_B39
          rw [h8, if_pos ((le_i (by omega) (by omega)).2 (Nat.le_refl _)), if_neg (by decide), if_neg (by decide), if_neg (by decide), if_neg (by decide)]
    · have hin' : fX10_isBetween τ b 0 4 = some (0, τ) := hin
      refine q_no h00 2 (by decide) ?_ ?_
      · unfold wL_variable fX9_variable
        rw [xvar_ok hn hr.2.1.1 hv, bx_inl, if_neg (show ¬ b = (0 : Int32) from hb 0 (by omega)), if_neg (show ¬ b = (1 : Int32) from hb 1 (by omega)), if_neg (show ¬ b = (2 : Int32) from hb 2 (by omega)), if_neg (show ¬ b = (3 : Int32) from hb 3 (by omega)), if_neg (show ¬ b = (4 : Int32) from hb 4 (by omega)), bx_inr, if_neg (by decide), if_pos (by decide)]
      · unfold fX10_variable
        rw [mvar_ok hn hr.2.2.1.1 hv, bd_some, if_neg (by decide), hin', bd_some, if_pos (by decide), m_fails, bd_some]
  · refine q_no h00 1 (by decide) ?_ ?_
    · unfold wL_variable fX9_variable
      rw [xvar_no hn hr.2.1.1 ha, bx_inr, bx_inr, if_pos (by decide)]
    · unfold fX10_variable
      rw [mvar_no hn hr.2.2.1.1 ha, bd_some, if_pos (by decide), m_fails, bd_some]
theorem S_violation (a b : Int32) : Sim (fun σ => wL_violation σ a b) (fun τ => fX10_violation τ a b) := by
  intro B σ τ hB h
  dsimp only
  have h00 := h
  obtain ⟨p, n, k, bs, U, it, h⟩ := h
  have hr := h.2.1
  have hk := hr.1.2.1
  rcases inN k a with ⟨c, hc, rfl⟩ | ha
  · have hm : isM (mst τ 124 0 0) p n k := isM_ag hr.2.2 (a_m0 τ 0) (fun _ _ _ => by omega)
    by_cases hb0 : b = 0
    · obtain ⟨σ1, e1, a1⟩ := xvioP (q := 3) (by decide) hr.1 hr.2.1 (row := p 1) (fun v hv' => (hr.2.1.2.2.1 v hv').2) (vld_sml hr.1) hc
      obtain ⟨τ1, e2, a2⟩ := mvioP (q := 126) (by decide) hr.1 hm.1 (row := p 1) hm.2 (vld_sml hr.1) hc
      refine q_ok h00 (vioP p (p 1) n c) a1 (fun _ _ _ _ => by omega) (ag_2 (W2 := fun c i => c = 124 ∧ i = 0 ∨ c = 131) (a_m0 τ 0) (fun _ _ h => Or.inl h) a2 (fun _ _ h => Or.inr h)) (fun _ _ _ _ _ => by omega) ?_ ?_ ((a2 _ _ (by omega)).trans (m00 _ _))
      · unfold wL_violation fX9_violation fX9_violation_L31; rw [xcon_ok hk hr.2.1.2.1 hc, bx_inl, if_pos hb0, e1, bd_some, bx_inl]
      · unfold fX10_violation fX10_violation_L36; simp only [lt]; rw [mcon_ok hk hr.2.2.1.2.1 hc, bd_some, if_neg (by decide), if_pos hb0, e2, bd_some]
    · obtain ⟨g0, g1, -, -⟩ := h.2.2.1
      obtain ⟨σ1, e1, a1⟩ := xvioP (q := 85) (by decide) hr.1 hr.2.1 (row := bs) (fun v hv' => (g1 v hv').1) (bst_sml g0) hc
      obtain ⟨τ1, e2, a2⟩ := mvioP (q := 132) (τ := mst τ 124 0 0) (by decide) hr.1 hm.1 (row := bs) (fun v hv' => by rw [mst_ne _ _ _ (by decide)]; exact (g1 v hv').2) (bst_sml g0) hc
      refine q_ok h00 (vioP p bs n c) a1 (fun _ _ _ _ => by omega) (ag_2 (W2 := fun c i => c = 124 ∧ i = 0 ∨ c = 131) (a_m0 τ 0) (fun _ _ h => Or.inl h) a2 (fun _ _ h => Or.inr h)) (fun _ _ _ _ _ => by omega) ?_ ?_ ((a2 _ _ (by omega)).trans (m00 _ _))
      · unfold wL_violation fX9_violation fX9_violation_L31; rw [xcon_ok hk hr.2.1.2.1 hc, bx_inl, if_neg hb0, e1, bd_some, bx_inl]
      · unfold fX10_violation fX10_violation_L36; simp only [lt]; rw [mcon_ok hk hr.2.2.1.2.1 hc, bd_some, if_neg (by decide), if_neg hb0, e2, bd_some]
  · refine q_no h00 1 (by decide) ?_ ?_
    · unfold wL_violation fX9_violation
      rw [xcon_no hk hr.2.1.2.1 ha, bx_inr, bx_inr, if_pos (by decide)]
    · unfold fX10_violation
      rw [mcon_no hk hr.2.2.1.2.1 ha, bd_some, if_pos (by decide), m_fails, bd_some]
/-- a question without a wrapper -/
theorem q1_ok {B : Nat} {σ τ σ1 τ1 : Mem} {W W' : Nat → Nat → Prop} {X F : Option (Int32 × Mem)} (h : RR B σ τ) (r : Int32) (a : Ag W σ σ1) (s : ∀ c i, c < 124 → ¬ (c = 8 ∨ c = 86 ∨ c = 98 ∨ 100 ≤ c ∧ c < 104 ∨ c = 114 ∨ c = 122 ∨ c = 123) → ¬ W c i) (a' : Ag W' τ τ1) (s' : ∀ c i, 124 ≤ c → c < 155 → ¬ (c = 124 ∧ i = 0 ∨ c = 124 ∧ 39 ≤ i ∧ i < 46 ∨ c = 124 ∧ i = 57 ∨ c = 131 ∨ 139 ≤ c ∧ c < 148 ∨ c = 154) → ¬ W' c i) (hx : X = some (r, σ1)) (hf : F = some (r, τ1)) : ∃ r σ1 τ1, X = some (r, σ1) ∧ F = some (r, τ1) ∧ RR (B + 30) σ1 τ1 :=
  ⟨r, σ1, τ1, hx, hf, RR_mono (RR_tr h a s a' s') (by omega)⟩
theorem xpres {σ : Mem} {p : Nat → Nat → Int32} {n k : Nat} (hv : vld p n k) (hx : isX 1 σ p n k) : ∃ σ', fX4_presentCost σ = some (cst p (p 1) n k, σ') ∧ A8 σ σ' := by
  obtain ⟨σ', e, a⟩ := xcostP (q := 3) (by decide) hv hx (row := p 1) (fun v hv' => (hx.2.2.1 v hv').2) (vld_sml hv)
  exact ⟨σ', by unfold fX4_presentCost; rw [e, bd_some], a⟩
theorem S_cost : Sim1 fX9_cost fX10_cost := by
  intro B σ τ hB h
  have h00 := h
  obtain ⟨p, n, k, bs, U, it, h⟩ := h
  obtain ⟨σ1, e1, a1⟩ := xpres h.2.1.1 h.2.1.2.1
  exact q1_ok h00 (cst p (p 1) n k) a1 (fun _ _ _ _ => by omega) (a_m0 τ 0) (fun _ _ _ _ _ => by omega) (by unfold fX9_cost; rw [e1, bd_some]) (by rw [m_cost, h.2.2.2.1])
theorem S_bestCost : Sim1 fX9_bestCost fX10_bestCost := by
  intro B σ τ hB h
  have h00 := h
  obtain ⟨p, n, k, bs, U, it, h⟩ := h
  exact q1_ok h00 (cst p bs n k) (ag_r (W := Wn)) (fun _ _ _ _ => by omega) (a_m0 τ 0) (fun _ _ _ _ _ => by omega) (by unfold fX9_bestCost; rw [h.2.2.1.2.2.1]) (by rw [m_bestCost, h.2.2.1.2.2.2])
theorem S_logSize : Sim1 fX9_logSize fX10_logSize := by
  intro B σ τ hB h
  have h00 := h
  obtain ⟨p, n, k, bs, U, it, h⟩ := h
  obtain ⟨o, e, -, -, -, h2, h3, -⟩ := h.2.2.2.2.2.2.2.1
  exact q1_ok h00 (nI e) (ag_r (W := Wn)) (fun _ _ _ _ => by omega) (a_m0 τ 0) (fun _ _ _ _ _ => by omega) (by unfold fX9_logSize; rw [h2]) (by rw [m_logSize, h3])
theorem S_search (b : Int32) : Sim (fun σ => wL_search σ b) (fun τ => fX10_search τ b) := by
  intro B σ τ hB h
  dsimp only
  have h00 := h
  obtain ⟨p, n, k, bs, U, it, h⟩ := h
  obtain ⟨c1, c2, c3⟩ := h.2.2.2.2.1
  have s3 := h.2.2.2.2.2.1.1 3 (by omega)
  obtain ⟨i1, i2, -⟩ := h.2.2.2.2.2.2.1
  rcases wh_range τ (b := b) (m := 4) (by omega) with ⟨j, hj, rfl, hin⟩ | ⟨hb, hin⟩
  · have hin' : fX10_isBetween τ (nI j) 0 4 = some (1, τ) := hin
    match j, hj with
    | 0, _ =>
      refine q_ok h00 (nI it) (σ1 := σ) (ag_r (W := Wn)) (fun _ _ _ _ => by omega) (a_m0 τ 0) (fun _ _ _ _ _ => by omega) ?_ ?_ (m00 _ _)
      · unfold wL_search fX9_search; rw [if_pos (by decide), bx_inl, i1]
      · unfold fX10_search; simp only [lt]; rw [hin', bd_some, if_neg (by decide), if_pos (by decide), m0n _ _ (by decide), i2]
    | 1, _ =>
      refine q_ok h00 (σ 84 8) (σ1 := σ) (ag_r (W := Wn)) (fun _ _ _ _ => by omega) (a_m0 τ 0) (fun _ _ _ _ _ => by omega) ?_ ?_ (m00 _ _)
      · unfold wL_search fX9_search; rw [if_neg (by decide), if_pos (by decide), bx_inl]
      · unfold fX10_search; simp only [lt]; rw [hin', bd_some, if_neg (by decide), if_neg (by decide), if_pos (by decide), m0n _ _ (by decide), c2]
    | 2, _ =>
      refine q_ok h00 (σ 84 9) (σ1 := σ) (ag_r (W := Wn)) (fun _ _ _ _ => by omega) (a_m0 τ 0) (fun _ _ _ _ _ => by omega) ?_ ?_ (m00 _ _)
      · unfold wL_search fX9_search; rw [if_neg (by decide), if_neg (by decide), if_pos (by decide), bx_inl]
      · unfold fX10_search; simp only [lt]; rw [hin', bd_some, if_neg (by decide), if_neg (by decide), if_neg (by decide), if_pos (by decide), m0n _ _ (by decide), c3]
    | 3, _ =>
      refine q_ok h00 (σ 83 3) (σ1 := σ) (ag_r (W := Wn)) (fun _ _ _ _ => by omega) (a_m0 τ 0) (fun _ _ _ _ _ => by omega) ?_ ?_ (m00 _ _)
      · unfold wL_search fX9_search; rw [if_neg (by decide), if_neg (by decide), if_neg (by decide), if_pos (by decide), bx_inl]
      · unfold fX10_search; simp only [lt]; rw [hin', bd_some, if_neg (by decide), if_neg (by decide), if_neg (by decide), if_neg (by decide), if_pos (by decide), m0n _ _ (by decide), s3]
    | 4, _ =>
      refine q_ok h00 (σ 84 6) (σ1 := σ) (ag_r (W := Wn)) (fun _ _ _ _ => by omega) (a_m0 τ 0) (fun _ _ _ _ _ => by omega) ?_ ?_ (m00 _ _)
      · unfold wL_search fX9_search; rw [if_neg (by decide), if_neg (by decide), if_neg (by decide), if_neg (by decide), if_pos (by decide), bx_inl]
      · unfold fX10_search; simp only [lt]; rw [hin', bd_some, if_neg (by decide), if_neg (by decide), if_neg (by decide), if_neg (by decide), if_neg (by decide), m0n _ _ (by decide), c1]
  · have hin' : fX10_isBetween τ b 0 4 = some (0, τ) := hin
    refine q_no h00 1 (by decide) ?_ ?_
    · unfold wL_search fX9_search
      rw [if_neg (show ¬ b = (0 : Int32) from hb 0 (by omega)), if_neg (show ¬ b = (1 : Int32) from hb 1 (by omega)), if_neg (show ¬ b = (2 : Int32) from hb 2 (by omega)), if_neg (show ¬ b = (3 : Int32) from hb 3 (by omega)), if_neg (show ¬ b = (4 : Int32) from hb 4 (by omega)), bx_inr, if_pos (by decide)]
    · unfold fX10_search
      rw [hin', bd_some, if_pos (by decide), m_fails, bd_some]
