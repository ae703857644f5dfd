/-! PURE, 33: step, run, restart, descend -/
theorem S_step : Sim wL_step fX10_step := by
  intro B σ τ hB h
  obtain ⟨b, σ1, τ1, e1, e2, hR, hb⟩ := step_R (by omega) h
  have am := fq_X10_steps e2
  rcases hb with rfl | rfl
  · refine ⟨1, σ1, 0, mst τ1 124 0 1, ?_, ?_, RR_mono (RR_tr hR (ag_r (W := Wn)) (fun _ _ _ _ => by omega) (a_m0 τ1 1) (fun _ _ _ _ _ => by omega)) (by omega), m00 _ _, fun h => absurd h (by decide)⟩
    · unfold wL_step fX9_step
      rw [e1, bd_some, if_pos rfl, bx_inr, if_pos rfl]
    · unfold fX10_step
      rw [e2, bd_some, if_pos rfl, m_fails, bd_some]
  · have hR' := hR
    obtain ⟨p, n, k, bs, U, it, h1⟩ := hR
    obtain ⟨σ2, e3, a3⟩ := xpres h1.2.1.1 h1.2.1.2.1
    refine ⟨0, _, cst p (p 1) n k, mst τ1 124 0 0, ?_, ?_, RR_155 (RR_mono (RR_tr hR' a3 (fun _ _ _ _ => by omega) (a_m0 τ1 0) (fun _ _ _ _ _ => by omega)) (by omega)) _, m00 _ _, fun _ => by rw [mst_at, upd_at]⟩
    · unfold wL_step fX9_step
      rw [e1, bd_some, if_neg (by decide), e3, bd_some, bx_inl]
    · unfold fX10_step
      rw [e2, bd_some, if_neg (by decide), lt_e2, m0n _ _ (by decide), h1.2.2.2.1]
theorem R0_cost {B : Nat} {p : Nat → Nat → Int32} {n k : Nat} {bs : Nat → Int32} {U : Nat → Nat → Nat} {it : Nat} {σ τ : Mem} (h : R0 B p n k bs U it σ τ) : ∃ a : Nat, a ≤ 21600 ∧ cst p (p 1) n k = nI a := by
  have hv := h.2.1.1
  obtain ⟨a, ha, e⟩ := cst_b (p := p) (row := p 1) hv.1 (vld_sml hv) k (fun c hc => ⟨(hv.2.2.2 c hc).2.2.1, (hv.2.2.2 c hc).2.2.2⟩)
  have hk := hv.2.1
  exact ⟨a, by omega, e⟩
theorem run_loop {B s : Nat} (hs : s ≤ 30) (hB : B ≤ 18000) : ∀ (j i : Nat), i + j = s → ∀ N N', j < N → j < N' → ∀ σ τ, RR (B + i) σ τ → ∃ r σ' τ', fX9_run_L9 N σ (nI s) (nI i) = some (.inl r, σ') ∧ fX10_run_L23 N' τ (nI s) (nI i) = some (r, τ') ∧ RR (B + 30) σ' τ' ∧ τ' 124 0 = τ 124 0 := by
  intro j
  induction j with
  | zero =>
    intro i hi N N' hN hN' σ τ h
    obtain ⟨N, rfl, hN⟩ := nsub1 hN
    obtain ⟨N', rfl, hN'⟩ := nsub1 hN'
    have e : i = s := by omega
    subst e
    refine ⟨nI i, σ, τ, ?_, ?_, RR_mono h (by omega), rfl⟩
    · rw [show fX9_run_L9 (N + 1) = fX9_run_B9 (fX9_run_L9 N) from rfl]
      unfold fX9_run_B9
      rw [if_pos (Int32.le_refl _)]
    · rw [show fX10_run_L23 (N' + 1) = fX10_run_B23 (fX10_run_L23 N') from rfl]
      unfold fX10_run_B23 fX10_run_L48
      rw [if_pos (Int32.le_refl _)]
  | succ j ih =>
    intro i hi N N' hN hN' σ τ h
    obtain ⟨N, rfl, hN⟩ := nsub1 hN
    obtain ⟨N', rfl, hN'⟩ := nsub1 hN'
    have h0 := h
    obtain ⟨p, n, k, bs, U, it, h⟩ := h
    obtain ⟨a, ha, ec⟩ := R0_cost h
    obtain ⟨σ1, e1, a1⟩ := xpres h.2.1.1 h.2.1.2.1
    have hlt : ¬ nI s ≤ nI i := fun h => absurd ((le_i (by omega) (by omega)).1 h) (by omega)
    have h1 : RR (B + i) σ1 τ := RR_tr h0 a1 (fun _ _ _ _ => by omega) (ag_r (W := Wn)) (fun _ _ _ _ _ => by omega)
    rw [show fX9_run_L9 (N + 1) = fX9_run_B9 (fX9_run_L9 N) from rfl, show fX10_run_L23 (N' + 1) = fX10_run_B23 (fX10_run_L23 N') from rfl]
    unfold fX9_run_B9 fX9_run_L42 fX10_run_B23 fX10_run_L48
    rw [if_neg hlt, if_neg hlt, e1, bd_some, h.2.2.2.1, ec]
    by_cases c : a = 0
    · subst c
      rw [if_pos (show nI 0 = (0 : Int32) from rfl), if_pos (show nI 0 ≤ (0 : Int32) by decide)]
      exact ⟨nI i, σ1, τ, rfl, rfl, RR_mono h1 (by omega), rfl⟩
    · rw [if_neg (nI_ne0 (by omega) (by omega)), if_neg (nI_nle (by omega) (by omega))]
      obtain ⟨b, σ2, τ2, e2, e3, h2, hb⟩ := step_R (by omega) h1
      have am := fq_X10_steps e3
      rw [e2, e3, bd_some, bd_some]
      rcases hb with rfl | rfl
      · rw [if_pos rfl, if_pos rfl]
        exact ⟨nI i, σ2, τ2, rfl, rfl, RR_mono h2 (by omega), am _ _ (by omega)⟩
      · rw [if_neg (by decide), if_neg (by decide), nI_s]
        obtain ⟨r, σ', τ', f1, f2, f3, f4⟩ := ih (i + 1) (by omega) N N' (by omega) (by omega) σ2 τ2 (RR_mono h2 (by omega))
        exact ⟨r, σ', τ', f1, f2, f3, f4.trans (am _ _ (by omega))⟩
theorem S_run (a : Int32) : Sim (fun σ => wL_run σ a) (fun τ => fX10_run τ a) := by
  intro B σ τ hB h
  dsimp only
  by_cases ha : (1 : Int32) ≤ a ∧ a ≤ 30
  · obtain ⟨s, hs1, hs2, rfl⟩ := rngN (lo := 1) (hi := 30) (by omega) ha.1 ha.2 (by omega)
    have h0 : RR (B + 0) σ (mst τ 124 0 0) := RR_tr h (ag_r (W := Wn)) (fun _ _ _ _ => by omega) (a_m0 τ 0) (fun _ _ _ _ _ => by omega)
    obtain ⟨r, σ', τ', e1, e2, e3, e4⟩ := run_loop hs2 hB s 0 (by omega) FU FU (FU_lt (by omega)) (FU_lt (by omega)) σ _ h0
    rw [nI_0] at e1 e2
    refine ⟨0, mst σ' 155 0 r, r, τ', ?_, ?_, RR_155 e3 _, e4.trans (m00 _ _), fun _ => by rw [mst_at, upd_at]⟩
    · unfold wL_run fX9_run
      rw [xrange_ok σ ha.1 ha.2, bx_inl, e1, bx_inl]
    · unfold fX10_run
      rw [mrange_ok τ ha.1 ha.2, bd_some, if_neg (by decide), lt_e2, e2]
  · refine q_no h 1 (by decide) ?_ ?_
    · unfold wL_run fX9_run
      rw [xrange_no σ ha, bx_inr, bx_inr, if_pos rfl]
    · unfold fX10_run
      rw [mrange_no τ ha, bd_some, if_pos rfl, m_fails, bd_some]
theorem S_restart : Sim1 fX9_restart fX10_restart := by
  intro B σ τ hB h
  obtain ⟨p, n, k, bs, U, it, h⟩ := h
  obtain ⟨h0, g1, g2, g3, g4, g5, g6, g7, g8, g9, gA, gB⟩ := R0_0 h 0
  obtain ⟨σ1, τ1, r, bs', e1, e2, hp, hb, h13, hc, hse, hban⟩ := sa_R g1 g2 g4.1 g6.1 g6.2.1 g4.2.2 (g5.1 3 (by omega))
  have aA := fq_X8_startAnew e1
  have bA := fq_X10_restarts e2
  have hR : RR B σ1 τ1 := by
    refine ⟨pv p r, n, k, bs', fun _ _ => 0, it, h0, hp, hb, h13, hc, ⟨fun j hj => ?_, ?_⟩, hban, lgR_tr g7 aA (fun _ _ _ => by omega) bA (fun _ _ _ => by omega), hiR_tr g8 aA (fun _ _ _ => by omega) bA (fun _ _ _ => by omega), saR_tr g9 aA (fun _ _ _ => by omega) bA (fun _ _ _ => by omega), teR_tr gA aA (fun _ _ _ => by omega) bA (fun _ _ _ => by omega), suR_pv (suR_tr gB aA (fun _ _ _ => by omega))⟩
    · by_cases j3 : j = 3
      · subst j3; exact hse
      · exact (aA _ _ (by omega)).trans ((g5.1 j hj).trans (bA _ _ (by omega)).symm)
    · obtain ⟨t', ht1, ht2⟩ := g5.2
      exact ⟨t', ht1, (aA _ _ (by omega)).trans ht2⟩
  obtain ⟨σ2, e3, a3⟩ := xpres hp.1 hp.2.1
  refine ⟨cst (pv p r) r n k, σ2, τ1, ?_, ?_, RR_mono (RR_tr hR a3 (fun _ _ _ _ => by omega) (ag_r (W := Wn)) (fun _ _ _ _ _ => by omega)) (by omega)⟩
  · unfold fX9_restart
    rw [e1, bv_some, e3, bd_some]
    rfl
  · unfold fX10_restart
    rw [lt_e2, e2, bv_some, h13]
theorem godown_R {B : Nat} {p : Nat → Nat → Int32} {n k : Nat} {bs : Nat → Int32} {U : Nat → Nat → Nat} {it m f : Nat} {bc kI : Int32} {σ τ : Mem} (h : R0 B p n k bs U it σ τ) (hS : LSt p n k U it bc kI m σ τ) (hm : m ≤ 375) (hC : CX n U it bc σ) (hf : f < m) : ∃ σ' τ' row bs', fX8_goDown σ (nI f) = some σ' ∧ fX10_takesMove τ (nI f) = some τ' ∧ R0 B (pv p row) n k bs' U it σ' τ' ∧ cst (pv p row) (pv p row 1) n k = τ 143 f := by
  obtain ⟨h0, g1, g2, g3, g4, g5, g6, g7, g8, g9, gA, gB⟩ := h
  have hv := g1.1
  have hn := hv.1
  obtain ⟨σ3, e4, a3, -, kd, a, b, c, hok, hrow, hmv, hcost, y0, y1, y2, y3⟩ := xlook hv hS hm hC hf
  generalize hrw : aft p kd a b c = row at hok hrow hcost
  have e6 := xtake 86 σ3
  generalize hs6 : mw σ3 3 (cpyF (σ3 86) (σ3 3) 10) = σ6 at e6
  have a6 : Ag (fun c _ => c = 3) σ3 σ6 := by rw [← hs6]; exact ag_mw _ _ (fun _ => rfl)
  have a16 : Ag (fun c i => c = 3 ∨ c = 8 ∨ c = 86) σ σ6 := ag_2 a3 (fun _ _ _ => by omega) a6 (fun _ _ _ => by omega)
  have r6 : ∀ v, v < n → σ6 3 v = row v := fun v hv' => by
    rw [← hs6, mw_at]
    exact (if_pos (by omega)).trans (hrow v hv')
  obtain ⟨τ6, e11, r6', b6⟩ := mtake (τ := τ) hv g1.2.2 (show f < 375 by omega) hmv y0 y1 y2 y3
  rw [hrw] at r6'
  have hv' : vld (pv p row) n k := vld_pv hv hok
  have hp7 : prb (pv p row) n k σ6 τ6 := ⟨hv', isX_pv g1.2.1 a16 (fun _ _ _ => by omega) r6, isM_pv g1.2.2.1 b6 (fun _ _ _ => by omega) r6'⟩
  have hb7 : bst (pv p row) n k bs σ6 τ6 := bst_pv (bst_tr g2 a16 (fun _ _ _ => by omega) b6 (fun _ _ _ => by omega))
  obtain ⟨bb, σ8, τ7, bs', e12, e13, hb8, h68, h138, -⟩ := kib_R hp7 hb7 ((a16 _ _ (by omega)).trans (g4.1.trans (b6 _ _ (by omega)).symm)) ((a16 _ _ (by omega)).trans (g6.1.trans (g6.2.1.symm.trans (b6 _ _ (by omega)).symm)))
  have a8 := fq_X8_keepIfBest e12
  have b7 := fq_X10_counts e13
  have hcafter : cst (pv p row) (pv p row 1) n k = τ 143 f := (cst_pv p row row n k).trans hcost.symm
  have a18 : Ag (fun c i => c = 3 ∨ c = 8 ∨ c = 86 ∨ c = 84 ∧ i = 5 ∨ c = 84 ∧ i = 6 ∨ c = 85) σ σ8 := ag_2 a16 (fun _ _ _ => by omega) a8 (fun _ _ _ => by omega)
  have b17 : Ag (fun c i => c = 126 ∨ c = 144 ∨ c = 124 ∧ i = 13 ∨ c = 124 ∧ i = 14 ∨ c = 124 ∧ i = 18 ∨ c = 131 ∨ c = 132) τ τ7 := ag_2 b6 (fun _ _ _ => by omega) b7 (fun _ _ _ => by omega)
  refine ⟨σ8, τ7, row, bs', ?_, ?_, ⟨h0, prb_tr hp7 a8 (fun _ _ _ => by omega) b7 (fun _ _ _ => by omega), hb8, h138, ⟨h68, (a18 _ _ (by omega)).trans (g4.2.1.trans (b17 _ _ (by omega)).symm), (a18 _ _ (by omega)).trans (g4.2.2.trans (b17 _ _ (by omega)).symm)⟩, stt_tr g5 a18 (fun _ _ _ => by omega) b17 (fun _ _ _ => by omega), ban_tr g6 a18 (fun _ _ _ => by omega) b17 (fun _ _ _ => by omega), lgR_tr g7 a18 (fun _ _ _ => by omega) b17 (fun _ _ _ => by omega), hiR_tr g8 a18 (fun _ _ _ => by omega) b17 (fun _ _ _ => by omega), saR_tr g9 a18 (fun _ _ _ => by omega) b17 (fun _ _ _ => by omega), teR_tr gA a18 (fun _ _ _ => by omega) b17 (fun _ _ _ => by omega), suR_pv (suR_tr gB a18 (fun _ _ _ => by omega))⟩, hcafter⟩
  · unfold fX8_goDown
    rw [hcafter] at e12
    rw [e4, bd_some, e6, bv_some, e12, bd_some]
  · rw [e11, e13, bv_some]
theorem desc_loop {B : Nat} (hB : B ≤ 18000) : ∀ (a i N N' : Nat), a < N → a < N' → i + a ≤ 50000 → ∀ p n k bs U it σ τ, R0 B p n k bs U it σ τ → (∃ a', a' ≤ a ∧ cst p (p 1) n k = nI a') → ∃ r σ' τ', fX9_descend_L2 N σ (nI i) = some (r, σ') ∧ (bd (fX10_leastMove τ 1) fun v8 σ8 => fX10_descend_L13 N' σ8 (nI i) v8) = some (r, τ') ∧ RR B σ' τ' := by
  intro a
  induction a with
  | zero =>
    intro i N N' hN hN' hi p n k bs U it σ τ h ⟨a', ha', ec⟩
    obtain ⟨N, rfl, hN⟩ := nsub1 hN
    obtain ⟨N', rfl, hN'⟩ := nsub1 hN'
    have hv := h.2.1.1
    have hn := hv.1
    obtain ⟨hL, hC⟩ := R0_LM (by omega) h
    obtain ⟨m, σ1, τ1, o, e1, e2, hS, hm, hC1, hf⟩ := down_R hv h.2.1.2.1 hL hC
    have ax := fq_X8_downhill e1
    have am := fq_X10_leastMove e2
    have h1 : R0 B p n k bs U it σ1 τ1 := R0_tr h ax (fun _ _ _ _ => by omega) am (fun _ _ _ _ _ => by omega)
    have no : oI (dnO p n k τ1 o) = -1 := by
      cases o with
      | none => rfl
      | some f =>
        obtain ⟨σ3, -, -, -, kd, x, y, z, hok, -, -, hcost, -⟩ := xlook hv hS hm hC1 (hf f rfl)
        obtain ⟨b, hb, eb⟩ := cst_b (p := p) (row := aft p kd x y z) hn (bst_sml hok) k (fun c hc => ⟨(hv.2.2.2 c hc).2.2.1, (hv.2.2.2 c hc).2.2.2⟩)
        have hk := hv.2.1
        show oI (if τ1 143 f < cst p (p 1) n k then some f else none) = -1
        rw [hcost, ec, eb, if_neg (fun hh => absurd ((lt_i (by omega) (by omega)).1 hh) (by omega))]
        rfl
    refine ⟨nI i, σ1, τ1, ?_, ?_, p, n, k, bs, U, it, h1⟩
    · rw [show fX9_descend_L2 (N + 1) = fX9_descend_B2 (fX9_descend_L2 N) from rfl]
      unfold fX9_descend_B2
      rw [if_neg (show ¬ (1000000 : Int32) ≤ nI i from fun h => absurd ((le_i (a := 1000000) (b := i) (by omega) (by omega)).1 h) (by omega)), e1, bd_some, if_pos no]
    · rw [e2, bd_some, show fX10_descend_L13 (N' + 1) = fX10_descend_B13 (fX10_descend_L13 N') from rfl]
      unfold fX10_descend_B13 fX10_descend_L47
      cases o with
      | none => rw [if_pos (show oI none < 0 by decide)]
      | some f =>
        have hfm := hf f rfl
        have no' : ¬ τ1 143 f < cst p (p 1) n k := fun hh => by
          have : oI (if τ1 143 f < cst p (p 1) n k then some f else none) = -1 := no
          rw [if_pos hh] at this
          exact oI_m1 (by omega) this
        rw [show oI (some f) = nI f from rfl, if_neg (nI_pos (by omega)), ck_i (by omega) (by omega), cl_i (by omega), h1.2.2.2.1, if_pos (Int32.not_lt.mp no')]
  | succ a ih =>
    intro i N N' hN hN' hi p n k bs U it σ τ h ⟨a', ha', ec⟩
    obtain ⟨N, rfl, hN⟩ := nsub1 hN
    obtain ⟨N', rfl, hN'⟩ := nsub1 hN'
    have hv := h.2.1.1
    have hn := hv.1
    have hk := hv.2.1
    obtain ⟨hL, hC⟩ := R0_LM (by omega) h
    obtain ⟨m, σ1, τ1, o, e1, e2, hS, hm, hC1, hf⟩ := down_R hv h.2.1.2.1 hL hC
    have ax := fq_X8_downhill e1
    have am := fq_X10_leastMove e2
    have h1 : R0 B p n k bs U it σ1 τ1 := R0_tr h ax (fun _ _ _ _ => by omega) am (fun _ _ _ _ _ => by omega)
    have hi1 : ¬ (1000000 : Int32) ≤ nI i := fun h => absurd ((le_i (a := 1000000) (b := i) (by omega) (by omega)).1 h) (by omega)
    rw [show fX9_descend_L2 (N + 1) = fX9_descend_B2 (fX9_descend_L2 N) from rfl, e2, bd_some, show fX10_descend_L13 (N' + 1) = fX10_descend_B13 (fX10_descend_L13 N') from rfl]
    unfold fX9_descend_B2 fX10_descend_B13 fX10_descend_L47
    rw [if_neg hi1, e1, bd_some]
    cases o with
    | none =>
      rw [if_pos (show oI (dnO p n k τ1 none) = -1 from rfl), if_pos (show oI none < 0 by decide)]
      exact ⟨nI i, σ1, τ1, rfl, rfl, p, n, k, bs, U, it, h1⟩
    | some f =>
      have hfm := hf f rfl
      rw [show oI (some f) = nI f from rfl, if_neg (nI_pos (by omega)), ck_i (by omega) (by omega), cl_i (by omega), h1.2.2.2.1]
      by_cases c : τ1 143 f < cst p (p 1) n k
      · have ed : dnO p n k τ1 (some f) = some f := if_pos c
        rw [ed, if_neg (oI_m1 (by omega)), if_neg (fun hh => nl_i hh c), show oI (some f) = nI f from rfl]
        obtain ⟨σ2, τ2, row, bs', f1, f2, f3, f4⟩ := godown_R h1 hS hm hC1 hfm
        rw [f1, f2, bv_some, bv_some, nI_s]
        obtain ⟨b, hb, eb⟩ := R0_cost f3
        refine ih (i + 1) N N' (by omega) (by omega) (by omega) _ _ _ _ _ _ σ2 τ2 f3 ⟨b, ?_, eb⟩
        rw [← f4, eb, ec] at c
        obtain ⟨a2, ha2, ea2⟩ := R0_cost h
        have := nI_inj (a := a') (b := a2) (by omega) (by omega) (ec.symm.trans ea2)
        have := (lt_i (by omega) (by omega)).1 c
        omega
      · have ed : dnO p n k τ1 (some f) = none := if_neg c
        rw [ed, if_pos (show oI none = -1 from rfl), if_pos (Int32.not_lt.mp c)]
        exact ⟨nI i, σ1, τ1, rfl, rfl, p, n, k, bs, U, it, h1⟩
theorem S_descend : Sim1 fX9_descend fX10_descend := by
  intro B σ τ hB h
  obtain ⟨p, n, k, bs, U, it, h⟩ := h
  obtain ⟨a, ha, ec⟩ := R0_cost h
  obtain ⟨r, σ', τ', e1, e2, e3⟩ := desc_loop hB 21600 0 FU FU (FU_lt (by omega)) (FU_lt (by omega)) (by omega) p n k bs U it σ _ (R0_0 h 0) ⟨a, ha, ec⟩
  rw [nI_0] at e1 e2
  refine ⟨r, σ', τ', e1, ?_, RR_mono e3 (by omega)⟩
  unfold fX10_descend
  rw [lt_e2]
  exact e2
