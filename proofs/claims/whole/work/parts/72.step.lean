/-! PURE, 32: a step on both sides -/
theorem step_R {B : Nat} {σ τ : Mem} (hB : B ≤ 20000) (h : RR B σ τ) : ∃ b σ' τ', fX8_tryStep σ = some (b, σ') ∧ fX10_steps τ = some (b, τ') ∧ RR (B + 1) σ' τ' ∧ (b = 0 ∨ b = 1) := by
  obtain ⟨p, n, k, bs, U, it, h⟩ := h
  have hr := h.2.1
  have hv := hr.1
  have hn := hv.1
  have hit := h.1
  obtain ⟨hL, hC⟩ := R0_LM hB h
  obtain ⟨m, σ1, τ1, o, e1, e2, hS, hm, hC1, hf⟩ := least_R 0 hv hr.2.1 hL hC
  have ax1 := fq_X8_cheapest e1
  have am1 := fq_X10_leastMove e2
  have h1 : R0 B p n k bs U it σ1 τ1 := R0_tr h ax1 (fun _ _ _ _ => by omega) am1 (fun _ _ _ _ _ => by omega)
  cases o with
  | none =>
    refine ⟨0, σ1, τ1, ?_, ?_, RR_mono ⟨p, n, k, bs, U, it, h1⟩ (by omega), Or.inl rfl⟩
    · unfold fX8_tryStep
      rw [e1, bd_some, if_pos (show oI none = -1 from rfl)]
    · unfold fX10_steps
      rw [e2, bd_some, if_neg (show ¬ 0 ≤ oI none by decide)]
  | some f =>
    have hfm := hf f rfl
    have hf375 : f < 375 := by omega
    obtain ⟨-, g1, g2, g3, g4, g5, g6, g7, g8, g9, gA, gB⟩ := h1
    obtain ⟨t, ht20, ht⟩ := g5.2
    have ht' : τ1 124 21 = nI t := (g5.1 1 (by omega)).symm.trans ht
    obtain ⟨i1, i2, i3⟩ := g6
    -- the class: cost before, cost behind
    obtain ⟨σ2, e3, a2⟩ := xpres hv g1.2.1
    have a2' : A86 σ1 σ2 := ag_w a2 (fun _ _ h => Or.inl h)
    obtain ⟨σ3, e4, a3, -, kd, a, b, c, hok, hrow, hmv, hcost, y0, y1, y2, y3⟩ := xlook hv (LSt_x hS a2') hm (CX_ag hC1 a2' (fun _ _ _ => by omega)) hfm
    generalize hrw : aft p kd a b c = row at hok hrow hcost
    have a13 : A86 σ1 σ3 := a86_t a2' a3
    have eit : σ3 84 7 + 1 = nI (it + 1) := by rw [a13 84 7 (by omega), i1, nI_s]
    generalize hs4 : mst σ3 84 7 (nI (it + 1)) = σ4
    have a4 : Ag (fun c i => c = 84 ∧ i = 7) σ3 σ4 := by rw [← hs4]; exact ag_mst _ _ ⟨rfl, rfl⟩
    have a14 : Ag (fun c i => c = 8 ∨ c = 86 ∨ c = 84 ∧ i = 7) σ1 σ4 := ag_2 a13 (fun _ _ _ => by omega) a4 (fun _ _ _ => by omega)
    have k7 : σ4 84 7 = nI (it + 1) := by rw [← hs4, mst_at, upd_at]
    have k831 : σ4 83 1 = nI t := (a14 _ _ (by omega)).trans ht
    obtain ⟨σ5, e5, a5, u5⟩ := xban_loop (U := U) (row := row) (t := t) (i0 := it + 1) (it := it) hv (isX_ag g1.2.1 a14 (fun _ _ _ => by omega)) (fun v hv' => (a4 _ _ (by omega)).trans (hrow v hv')) k7 (by omega) ht20 (by omega) (fun v w hv' hw => ⟨(i3 v w hv' hw).1, (a14 _ _ (by omega)).trans (i3 v w hv' hw).2.1⟩) n 0 (by omega) FU (FU_lt (by omega)) σ4 ag_r (fun v w hv' hw => by
      unfold Ub
      rw [if_neg (fun hh => absurd hh.1 (Nat.not_lt_zero _))]
      exact (a14 _ _ (by omega)).trans (i3 v w hv' hw).2.1)
    have e5' : fX8_banLeftValues σ4 (nI t) = some σ5 := by rw [nI_0] at e5; exact e5
    have e6 := xtake 86 σ5
    generalize hs6 : mw σ5 3 (cpyF (σ5 86) (σ5 3) 10) = σ6 at e6
    have a6 : Ag (fun c _ => c = 3) σ5 σ6 := by rw [← hs6]; exact ag_mw _ _ (fun _ => rfl)
    have a16 : Ag (fun c i => c = 3 ∨ c = 8 ∨ c = 86 ∨ c = 84 ∧ i = 7 ∨ 88 ≤ c ∧ c < 98) σ1 σ6 := ag_2 a14 (fun _ _ _ => by omega) (ag_2 (W2 := fun c i => c = 3 ∨ 88 ≤ c ∧ c < 98) a5 (fun _ _ _ => by omega) a6 (fun _ _ _ => by omega)) (fun _ _ _ => by omega)
    have r6 : ∀ v, v < n → σ6 3 v = row v := fun v hv' => by
      rw [← hs6, mw_at]
      exact (if_pos (by omega)).trans ((a5 _ _ (by omega)).trans ((a4 _ _ (by omega)).trans (hrow v hv')))
    -- the reference: iteration, log
    generalize ht2 : mst τ1 124 15 (nI (it + 1)) = τ2
    have b2 : Ag (fun c i => c = 124 ∧ i = 15) τ1 τ2 := by rw [← ht2]; exact ag_mst _ _ ⟨rfl, rfl⟩
    have q15 : τ2 124 15 = nI (it + 1) := by rw [← ht2, mst_at, upd_at]
    obtain ⟨kd2, a2q, b2q, c2q, -, -, ⟨x0, x1, x2, -⟩, ⟨z0, z1, z2, z3⟩, -, -⟩ := hS.2.2.2.2 f hfm
    obtain ⟨σ7, τ3, e7, e8, lg7⟩ := log_R (σ := σ6) (τ := τ2) (f := f) (lgR_tr g7 a16 (fun _ _ _ => by omega) b2 (fun _ _ _ => by omega)) hf375 ((a16 _ _ (by omega)).trans (x0.trans (z0.symm.trans (b2 _ _ (by omega)).symm))) ((a16 _ _ (by omega)).trans (x1.trans (z1.symm.trans (b2 _ _ (by omega)).symm))) ((a16 _ _ (by omega)).trans (x2.trans (z2.symm.trans (b2 _ _ (by omega)).symm))) ((a16 _ _ (by omega)).trans (z3.symm.trans (b2 _ _ (by omega)).symm))
    have a7 := fq_X6_put e7
    have b3 := fq_X10_logs e8
    have b13 : Ag (fun c i => c = 124 ∧ i = 15 ∨ c = 124 ∧ i = 19 ∨ c = 134) τ1 τ3 := ag_2 b2 (fun _ _ _ => by omega) b3 (fun _ _ _ => by omega)
    rw [b2 124 13 (by omega), g3, b2 143 f (by omega), q15] at e7
    have k67 : σ6 84 7 = nI (it + 1) := (a6 _ _ (by omega)).trans ((a5 _ _ (by omega)).trans k7)
    obtain ⟨τ4, e9, hrow4, b4⟩ := mft (τ := τ3) (cI := τ3 142 f) hv (isM_ag g1.2.2 b13 (fun _ _ _ => by omega)) hmv (fun e => (b13 _ _ (by omega)).trans (y3 e))
    rw [hrw] at hrow4
    have b14 : Ag (fun c i => c = 124 ∧ i = 15 ∨ c = 124 ∧ i = 19 ∨ c = 134 ∨ c = 144) τ1 τ4 := ag_2 b13 (fun _ _ _ => by omega) b4 (fun _ _ _ => by omega)
    have q415 : τ4 124 15 = nI (it + 1) := (b4 _ _ (by omega)).trans ((b3 _ _ (by omega)).trans q15)
    obtain ⟨τ5, e10, b5, u6⟩ := mban_loop (U := U) (row := row) (t := t) (i0 := it + 1) (it := it) (nI f) hv (isM_ag g1.2.2 b14 (fun _ _ _ => by omega)) hrow4 q415 ((b14 _ _ (by omega)).trans ht') (by omega) ht20 (by omega) (fun v w hv' hw => ⟨(i3 v w hv' hw).1, (b14 _ _ (by omega)).trans (i3 v w hv' hw).2.2⟩) n 0 (by omega) FU (FU_lt (by omega)) τ4 ag_r (fun v w hv' hw => by
      unfold Ub
      rw [if_neg (fun hh => absurd hh.1 (Nat.not_lt_zero _))]
      exact (b14 _ _ (by omega)).trans (i3 v w hv' hw).2.2)
    rw [nI_0] at e10
    have b15 : Ag (fun c i => c = 124 ∧ i = 15 ∨ c = 124 ∧ i = 19 ∨ c = 133 ∨ c = 134 ∨ c = 144) τ1 τ5 := ag_2 b14 (fun _ _ _ => by omega) b5 (fun _ _ _ => by omega)
    obtain ⟨τ6, e11, r6', b6⟩ := mtake (τ := τ5) hv (isM_ag g1.2.2 b15 (fun _ _ _ => by omega)) hf375 hmv ((b15 _ _ (by omega)).trans y0) ((b15 _ _ (by omega)).trans y1) ((b15 _ _ (by omega)).trans y2) (fun e => (b15 _ _ (by omega)).trans (y3 e))
    rw [hrw] at r6'
    have b16 : Ag (fun c i => c = 124 ∧ i = 15 ∨ c = 124 ∧ i = 19 ∨ c = 126 ∨ c = 133 ∨ c = 134 ∨ c = 144) τ1 τ6 := ag_2 b15 (fun _ _ _ => by omega) b6 (fun _ _ _ => by omega)
    have a17 : Ag (fun c i => c = 3 ∨ c = 8 ∨ c = 86 ∨ c = 84 ∧ i = 7 ∨ 88 ≤ c ∧ c < 98 ∨ c = 104 ∨ 106 ≤ c ∧ c < 113) σ1 σ7 := ag_2 a16 (fun _ _ _ => by omega) a7 (fun _ _ _ => by omega)
    -- the new values
    have hv' : vld (pv p row) n k := vld_pv hv hok
    have hp7 : prb (pv p row) n k σ7 τ6 := ⟨hv', isX_pv g1.2.1 a17 (fun _ _ _ => by omega) (fun v hv'' => (a7 _ _ (by omega)).trans (r6 v hv'')), isM_pv g1.2.2.1 b16 (fun _ _ _ => by omega) r6'⟩
    have hb7 : bst (pv p row) n k bs σ7 τ6 := bst_pv (bst_tr g2 a17 (fun _ _ _ => by omega) b16 (fun _ _ _ => by omega))
    obtain ⟨bb, σ8, τ7, bs', e12, e13, hb8, h68, h138, hbb⟩ := kib_R hp7 hb7 ((a17 _ _ (by omega)).trans (g4.1.trans (b16 _ _ (by omega)).symm)) ((a7 _ _ (by omega)).trans (k67.trans (q415.symm.trans ((b6 _ _ (by omega)).trans (b5 _ _ (by omega))).symm)))
    have a8 := fq_X8_keepIfBest e12
    have b7 := fq_X10_counts e13
    have a18 : Ag (fun c i => c = 3 ∨ c = 8 ∨ c = 86 ∨ c = 84 ∧ 5 ≤ i ∧ i < 8 ∨ c = 85 ∨ 88 ≤ c ∧ c < 98 ∨ c = 104 ∨ 106 ≤ c ∧ c < 113) σ1 σ8 := ag_2 a17 (fun _ _ _ => by omega) a8 (fun _ _ _ => by omega)
    have b17 : Ag (fun c i => c = 124 ∧ 13 ≤ i ∧ i < 16 ∨ c = 124 ∧ i = 18 ∨ c = 124 ∧ i = 19 ∨ c = 126 ∨ 131 ≤ c ∧ c < 135 ∨ c = 144) τ1 τ7 := ag_2 b16 (fun _ _ _ => by omega) b7 (fun _ _ _ => by omega)
    have hcafter : cst (pv p row) (pv p row 1) n k = τ1 143 f := (cst_pv p row row n k).trans hcost.symm
    rw [hcafter] at e12
    have id8 : σ8 84 8 = τ7 124 16 := (a18 _ _ (by omega)).trans (g4.2.1.trans (b17 _ _ (by omega)).symm)
    have pat : σ8 83 2 = τ7 124 22 := (a18 _ _ (by omega)).trans ((g5.1 2 (by omega)).trans (b17 _ _ (by omega)).symm)
    generalize hxi : (if bb = 0 then σ8 84 8 + 1 else 0) = x
    have eX : fX8_tryStep σ = fX8_tryStep_L100 σ8 x := by
      unfold fX8_tryStep
      rw [e1, bd_some, if_neg (oI_m1 (by omega)), e3, bd_some, show oI (some f) = nI f from rfl, e4, bd_some, lt_e2, eit, hs4, k831, e5', bv_some, e6, bv_some, k67, e7, bv_some, e12, bd_some, ← hxi]
      by_cases c0 : bb = 0
      · rw [if_pos c0, if_pos c0]
      · rw [if_neg c0, if_neg c0]
    have eM : fX10_steps τ = fX10_steps_L160 τ7 x := by
      unfold fX10_steps
      rw [e2, bd_some, if_pos (show 0 ≤ oI (some f) from nI_pos' (by omega)), lt_e2, i2, nI_s, ht2, show oI (some f) = nI f from rfl, e8, bv_some, ck_i (by omega) (by omega), ck_i (by omega) (by omega), ck_i (by omega) (by omega), ck_i (by omega) (by omega), cl_i (by omega), b13 139 f (by omega), b13 140 f (by omega), b13 141 f (by omega), y0, y1, y2, e9, bv_some, e10, e11, e13, bv_some, bv_some, ← hxi]
      have e14 : τ5 124 14 = τ6 124 14 := (b6 _ _ (by omega)).symm
      rw [e14, id8]
      rcases hbb with ⟨c0, c1⟩ | ⟨c0, c1⟩
      · rw [if_pos c1, if_pos c0]
      · rw [if_neg c1, if_neg (by rw [c0]; decide)]
    generalize hs9 : mst σ8 84 8 x = σ9
    generalize ht8 : mst τ7 124 16 x = τ8
    have a9 : Ag (fun c i => c = 84 ∧ i = 8) σ8 σ9 := by rw [← hs9]; exact ag_mst _ _ ⟨rfl, rfl⟩
    have b8 : Ag (fun c i => c = 124 ∧ i = 16) τ7 τ8 := by rw [← ht8]; exact ag_mst _ _ ⟨rfl, rfl⟩
    have s98 : σ9 84 8 = x := by rw [← hs9, mst_at, upd_at]
    have t98 : τ8 124 16 = x := by rw [← ht8, mst_at, upd_at]
    have a19 : Ag (fun c i => c = 3 ∨ c = 8 ∨ c = 86 ∨ c = 84 ∧ 5 ≤ i ∧ i < 9 ∨ c = 85 ∨ 88 ≤ c ∧ c < 98 ∨ c = 104 ∨ 106 ≤ c ∧ c < 113) σ1 σ9 := ag_2 a18 (fun _ _ _ => by omega) a9 (fun _ _ _ => by omega)
    have b18 : Ag (fun c i => c = 124 ∧ 13 ≤ i ∧ i < 17 ∨ c = 124 ∧ i = 18 ∨ c = 124 ∧ i = 19 ∨ c = 126 ∨ 131 ≤ c ∧ c < 135 ∨ c = 144) τ1 τ8 := ag_2 b17 (fun _ _ _ => by omega) b8 (fun _ _ _ => by omega)
    have a79 : Ag (fun c i => c = 84 ∧ i = 5 ∨ c = 84 ∧ i = 6 ∨ c = 84 ∧ i = 8 ∨ c = 85) σ7 σ9 := ag_2 a8 (fun _ _ _ => by omega) a9 (fun _ _ _ => by omega)
    have b68 : Ag (fun c i => c = 124 ∧ i = 13 ∨ c = 124 ∧ i = 14 ∨ c = 124 ∧ i = 16 ∨ c = 124 ∧ i = 18 ∨ c = 131 ∨ c = 132) τ6 τ8 := ag_2 b7 (fun _ _ _ => by omega) b8 (fun _ _ _ => by omega)
    have hp9 : prb (pv p row) n k σ9 τ8 := prb_tr hp7 a79 (fun _ _ _ => by omega) b68 (fun _ _ _ => by omega)
    have hb9 : bst (pv p row) n k bs' σ9 τ8 := bst_tr hb8 a9 (fun _ _ _ => by omega) b8 (fun _ _ _ => by omega)
    have h69 : σ9 84 6 = τ8 124 18 := (a9 _ _ (by omega)).trans (h68.trans (b8 _ _ (by omega)).symm)
    have h99 : σ9 84 9 = τ8 124 17 := (a19 _ _ (by omega)).trans (g4.2.2.trans (b18 _ _ (by omega)).symm)
    have k97 : σ9 84 7 = nI (it + 1) := (a79 _ _ (by omega)).trans ((a7 _ _ (by omega)).trans k67)
    have q97 : τ8 124 15 = nI (it + 1) := (b68 _ _ (by omega)).trans ((b6 _ _ (by omega)).trans ((b5 _ _ (by omega)).trans q415))
    have lg9 : lgR σ9 τ8 := lgR_tr lg7 a79 (fun _ _ _ => by omega) (ag_2 (W2 := fun c i => c = 124 ∧ i < 19 ∨ c = 126 ∨ 131 ≤ c ∧ c < 134 ∨ c = 144) (ag_2 (W2 := fun c i => c = 126 ∨ c = 133 ∨ c = 144) b4 (fun _ _ _ => by omega) (ag_2 (W2 := fun c i => c = 126 ∨ c = 133 ∨ c = 144) b5 (fun _ _ _ => by omega) b6 (fun _ _ _ => by omega)) (fun _ _ _ => by omega)) (fun _ _ _ => by omega) b68 (fun _ _ _ => by omega)) (fun _ _ _ => by omega)
    have hstt9 : stt σ9 τ8 := stt_tr g5 a19 (fun _ _ _ => by omega) b18 (fun _ _ _ => by omega)
    have hhi9 : hiR σ9 τ8 := hiR_tr g8 a19 (fun _ _ _ => by omega) b18 (fun _ _ _ => by omega)
    have hsa9 : saR σ9 τ8 := saR_tr g9 a19 (fun _ _ _ => by omega) b18 (fun _ _ _ => by omega)
    have hte9 : teR σ9 τ8 := teR_tr gA a19 (fun _ _ _ => by omega) b18 (fun _ _ _ => by omega)
    have hsu9 : suR (pv p row) n k σ9 := suR_pv (suR_tr gB a19 (fun _ _ _ => by omega))
    have h139 : τ8 124 13 = cst (pv p row) (pv p row 1) n k := (b8 _ _ (by omega)).trans h138
    have s92 : σ9 83 2 = σ8 83 2 := a9 _ _ (by omega)
    have t92 : τ8 124 22 = τ7 124 22 := b8 _ _ (by omega)
    by_cases cpat : x < σ8 83 2
    · refine ⟨1, σ9, τ8, ?_, ?_, ⟨pv p row, n, k, bs', Ub U p row (it + 1 + t + 1) n, it + 1, by omega, hp9, hb9, h139, ⟨h69, s98.trans t98.symm, h99⟩, hstt9, ⟨k97, q97, fun v w hv'' hw => ⟨?_, ?_, ?_⟩⟩, lg9, hhi9, hsa9, hte9, hsu9⟩, Or.inr rfl⟩
      · rw [eX]
        unfold fX8_tryStep_L100 fX8_tryStep_L120
        rw [lt_e2, hs9, s98, s92, if_pos cpat]
      · rw [eM]
        unfold fX10_steps_L160 fX10_steps_L178
        rw [lt_e2, ht8, t98, t92, ← pat, if_pos cpat]
      · have h1 := (i3 v w hv'' hw).1
        exact Ub_b (it := it + 1) (by omega) (by omega)
      · exact (a79 _ _ (by omega)).trans ((a7 _ _ (by omega)).trans ((a6 _ _ (by omega)).trans (u5 v w hv'' hw)))
      · exact (b68 _ _ (by omega)).trans ((b6 _ _ (by omega)).trans (u6 v w hv'' hw))
    · obtain ⟨σ10, τ9, r, bs2, e14, e15, hpA, hbA, h13A, hcouA, hseed, hbanA⟩ := sa_R hp9 hb9 h69 k97 q97 h99 (hstt9.1 3 (by omega))
      have aA := fq_X8_startAnew e14
      have bA := fq_X10_restarts e15
      refine ⟨1, σ10, τ9, ?_, ?_, ⟨pv (pv p row) r, n, k, bs2, fun _ _ => 0, it + 1, by omega, hpA, hbA, h13A, hcouA, ⟨fun j hj => ?_, ?_⟩, hbanA, lgR_tr lg9 aA (fun _ _ _ => by omega) bA (fun _ _ _ => by omega), hiR_tr hhi9 aA (fun _ _ _ => by omega) bA (fun _ _ _ => by omega), saR_tr hsa9 aA (fun _ _ _ => by omega) bA (fun _ _ _ => by omega), teR_tr hte9 aA (fun _ _ _ => by omega) bA (fun _ _ _ => by omega), suR_pv (suR_tr hsu9 aA (fun _ _ _ => by omega))⟩, Or.inr rfl⟩
      · rw [eX]
        unfold fX8_tryStep_L100 fX8_tryStep_L120
        rw [lt_e2, hs9, s98, s92, if_neg cpat, e14, bv_some]
      · rw [eM]
        unfold fX10_steps_L160 fX10_steps_L178
        rw [lt_e2, ht8, t98, t92, ← pat, if_neg cpat, e15, bv_some]
      · by_cases j3 : j = 3
        · subst j3; exact hseed
        · exact (aA _ _ (by omega)).trans ((hstt9.1 j hj).trans (bA _ _ (by omega)).symm)
      · obtain ⟨t', ht1, ht2⟩ := hstt9.2
        exact ⟨t', ht1, (aA _ _ (by omega)).trans ht2⟩
