/-! PURE, 19: clear, undo, save, restore -/
theorem S_clear : Sim1 fX9_clear fX10_clear := by
  intro B σ τ hB h
  obtain ⟨p, n, k, bs, U, it, -, h1, -, -, -, h5, -, h7, h8, h9, hA, -⟩ := h
  have x1 := h1.2.1.1
  have m1 := h1.2.2.1.1
  obtain ⟨o, e, ho, he, y1, y2, y3, y4⟩ := h8
  generalize hs : mst (mst (mst (mst (mst (mst (mst σ 1 7 0) 1 8 0) 81 2 0) 83 0 15) 83 1 3) 83 2 20) 83 3 1 = s
  generalize ht : mst (mst (mst (mst (mst (mst (mst (mst τ 124 0 0) 124 7 0) 124 8 0) 124 20 15) 124 21 3) 124 22 20) 124 23 1) 124 28 0 = t
  have s1 : s 1 = upd (upd (σ 1) 7 0) 8 0 := by
    rw [← hs, mst_ne _ _ _ (by decide), mst_ne _ _ _ (by decide), mst_ne _ _ _ (by decide), mst_ne _ _ _ (by decide), mst_ne _ _ _ (by decide), mst_at, mst_at]
  have s81 : s 81 = upd (σ 81) 2 0 := by
    rw [← hs, mst_ne _ _ _ (by decide), mst_ne _ _ _ (by decide), mst_ne _ _ _ (by decide), mst_ne _ _ _ (by decide), mst_at, mst_ne _ _ _ (by decide), mst_ne _ _ _ (by decide)]
  have s83 : s 83 = upd (upd (upd (upd (σ 83) 0 15) 1 3) 2 20) 3 1 := by
    rw [← hs, mst_at, mst_at, mst_at, mst_at, mst_ne _ _ _ (by decide), mst_ne _ _ _ (by decide), mst_ne _ _ _ (by decide)]
  have sn : ∀ c, c ≠ 1 → c ≠ 81 → c ≠ 83 → s c = σ c := fun c c1 c2 c3 => by
    rw [← hs, mst_ne _ _ _ c3, mst_ne _ _ _ c3, mst_ne _ _ _ c3, mst_ne _ _ _ c3, mst_ne _ _ _ c2, mst_ne _ _ _ c1, mst_ne _ _ _ c1]
  have t124 : t 124 = upd (upd (upd (upd (upd (upd (upd (upd (τ 124) 0 0) 7 0) 8 0) 20 15) 21 3) 22 20) 23 1) 28 0 := by
    rw [← ht, mst_at, mst_at, mst_at, mst_at, mst_at, mst_at, mst_at, mst_at]
  have tn : ∀ c, c ≠ 124 → t c = τ c := fun c c1 => by
    rw [← ht, mst_ne _ _ _ c1, mst_ne _ _ _ c1, mst_ne _ _ _ c1, mst_ne _ _ _ c1, mst_ne _ _ _ c1, mst_ne _ _ _ c1, mst_ne _ _ _ c1, mst_ne _ _ _ c1]
  have ax : Ag (fun c i => c = 1 ∨ c = 81 ∧ i = 2 ∨ c = 83) σ s := fun c i hc => by
    by_cases c81 : c = 81
    · subst c81; rw [s81, upd_ne _ _ (by omega)]
    · rw [sn c (by omega) c81 (by omega)]
  have am : Ag (fun c i => c = 124 ∧ (i = 0 ∨ i = 7 ∨ i = 8 ∨ 20 ≤ i ∧ i < 24 ∨ i = 28)) τ t := fun c i hc => by
    by_cases c1 : c = 124
    · subst c1
      rw [t124, upd_ne _ _ (by omega), upd_ne _ _ (by omega), upd_ne _ _ (by omega), upd_ne _ _ (by omega), upd_ne _ _ (by omega), upd_ne _ _ (by omega), upd_ne _ _ (by omega), upd_ne _ _ (by omega)]
    · rw [tn c c1]
  have q : prb p 0 0 s t := ⟨⟨Nat.zero_le _, Nat.zero_le _, fun v hv => absurd hv (Nat.not_lt_zero v), fun v hv => absurd hv (Nat.not_lt_zero v)⟩, ⟨by rw [s1]; rfl, by rw [s1]; rfl, fun v hv => absurd hv (Nat.not_lt_zero v), fun v hv => absurd hv (Nat.not_lt_zero v)⟩, ⟨by rw [t124]; rfl, by rw [t124]; rfl, fun v hv => absurd hv (Nat.not_lt_zero v), fun v hv => absurd hv (Nat.not_lt_zero v)⟩, fun v hv => absurd hv (Nat.not_lt_zero v)⟩
  have qs : stt s t := by
    refine ⟨fun j hj => ?_, 3, by omega, by rw [s83]; rfl⟩
    rw [s83, t124]
    match j, hj with
    | 0, _ => rfl
    | 1, _ => rfl
    | 2, _ => rfl
    | 3, _ => rfl
  have qh : hiR s t := ⟨o, 0, ho, by omega, (ax _ _ (by omega)).trans y1, by rw [s81]; rfl, by rw [t124]; rfl, fun j hj => absurd hj (Nat.not_lt_zero j)⟩
  obtain ⟨o2, ho2, hl⟩ := lgR_o h7
  obtain ⟨σ2, τ2, e1, e2, hr⟩ := begin_R (B := B + 30) q qs ⟨o2, ho2, (ax _ _ (by omega)).trans hl⟩ qh (saR_tr h9 ax (fun _ _ _ => by omega) am (fun _ _ _ => by omega)) (teR_tr hA ax (fun _ _ _ => by omega) am (fun _ _ _ => by omega))
  refine ⟨nI n, σ2, τ2, ?_, ?_, hr⟩
  · unfold fX9_clear fX4_removeAll fX1_forget fX5_reset
    simp only [lt, bv_some]
    rw [hs, e1, bv_some, x1]
  · unfold fX10_clear
    simp only [lt]
    rw [ht, e2, bv_some, mst_at, upd_ne _ _ (by decide), m1]
theorem S_save : Sim1 fX9_save fX10_save := by
  intro B σ τ hB h
  obtain ⟨p, n, k, bs, U, it, h⟩ := h
  have h0 := h
  obtain ⟨hb, h1, h2, h3, h4, h5, h6, h7, h8, h9, hA, hC⟩ := h
  have x1 := h1.2.1.1
  have m1 := h1.2.2.1.1
  have ex := xsave σ
  have ax := fq_X9_save ex
  obtain ⟨t, e, v1, v2, v3, v4, -, a1⟩ := keep_R (q := 136) (nn := 104) (a := 0) (by omega) (by omega) (by omega) (mst (mst τ 124 0 0) 124 30 1)
  generalize ht : mst (mst τ 124 0 0) 124 30 1 = t0 at e v1 v2 v3 v4 a1
  have a0 : Ag (fun c i => c = 124 ∧ i = 0 ∨ c = 124 ∧ i = 30) τ t0 := by
    rw [← ht]
    exact ag_2 (ag_mst _ _ (W := fun c i => c = 124 ∧ i = 0) ⟨rfl, rfl⟩) (fun _ _ h => Or.inl h) (ag_mst _ _ (W := fun c i => c = 124 ∧ i = 30) ⟨rfl, rfl⟩) (fun _ _ h => Or.inr h)
  have am : Ag (fun c i => c = 136 ∨ c = 124 ∧ i = 0 ∨ c = 124 ∧ i = 29 ∨ c = 124 ∧ i = 30 ∨ c = 124 ∧ i = 31) τ t := ag_2 a0 (fun _ _ _ => by omega) a1 (fun _ _ _ => by omega)
  have hm0 : isM t0 p n k := (prb_tr h1 (ag_r (W := fun c _ => c < 0)) (fun _ _ _ => by omega) a0 (fun _ _ _ => by omega)).2.2
  have t30 : t 124 30 = 1 := (a1 _ _ (by omega)).trans (by rw [← ht, mst_at, upd_at])
  have t7 : t 124 7 = nI n := (am _ _ (by omega)).trans m1
  have hx9 : isX 9 (mst (cpX 9 1 σ) 0 8 1) p n k := isX_tr (isX_cp h1.1.1 h1.1.2.1 h1.2.1) (by rw [mst_ne _ _ _ (by decide)]) (by rw [mst_ne _ _ _ (by decide)]) (fun c i _ _ => by rw [mst_ne _ _ _ (by omega)])
  refine ⟨nI n, _, t, by rw [ex, x1], ?_, p, n, k, bs, U, it, by omega, prb_tr h1 ax (fun _ _ _ => by omega) am (fun _ _ _ => by omega), bst_tr h2 ax (fun _ _ _ => by omega) am (fun _ _ _ => by omega), (am _ _ (by omega)).trans h3, cou_tr h4 ax (fun _ _ _ => by omega) am (fun _ _ _ => by omega), stt_tr h5 ax (fun _ _ _ => by omega) am (fun _ _ _ => by omega), ban_tr h6 ax (fun _ _ _ => by omega) am (fun _ _ _ => by omega), lgR_tr h7 ax (fun _ _ _ => by omega) am (fun _ _ _ => by omega), hiR_tr h8 ax (fun _ _ _ => by omega) am (fun _ _ _ => by omega), Or.inr ⟨by rw [mst_at, upd_at], t30, p, n, k, h1.1, hx9, isH_of h1.1 hm0 v1 v2 v3 v4⟩, teR_tr hA ax (fun _ _ _ => by omega) am (fun _ _ _ => by omega), suR_tr hC ax (fun _ _ _ => by omega)⟩
  unfold fX10_save
  simp only [lt]
  rw [ht, show (0 : Int32) = nI 0 from rfl, e, bv_some, t7]
theorem S_undo : Sim wL_undo fX10_undo := by
  intro B σ τ hB h
  have h00 := h
  obtain ⟨p, n, k, bs, U, it, h⟩ := h
  obtain ⟨-, g1, -, -, -, g5, -, g7, g8, g9, gA, -⟩ := R0_0 h 0
  obtain ⟨o, e, ho, he, y1, y2, y3, y4⟩ := g8
  have y3' : τ 124 28 = nI e := y3
  by_cases c0 : e = 0
  · subst c0
    refine ⟨1, σ, 0, mst τ 124 0 1, ?_, ?_, RR_0 h00 1, by rw [mst_at, upd_at], fun h => absurd h (by decide)⟩
    · unfold wL_undo fX9_undo
      rw [y2, if_pos (show nI 0 = (0 : Int32) from rfl), bx_inr, if_pos rfl]
    · unfold fX10_undo
      rw [y3', if_pos (show nI 0 = (0 : Int32) from rfl), m_fails, bd_some]
  · have ex := xbringBack σ ho he (by omega) y1 y2
    have ax := fq_X1_bringBack ex
    obtain ⟨p2, n2, k2, hv2, hx2, hh2⟩ := y4 (e - 1) (by omega)
    generalize ht : mst (mst τ 124 0 0) 124 28 (nI (e - 1)) = t0
    have a0 : Ag (fun c i => c = 124 ∧ i = 28) (mst τ 124 0 0) t0 := by rw [← ht]; exact ag_mst _ _ ⟨rfl, rfl⟩
    obtain ⟨t, e1, v1, v2, v3, v4, a1⟩ := give_R (q := 135) (nn := 832) (a := 104 * (e - 1)) (by omega) (by omega) (by omega) t0
    have am : Ag (fun c i => 125 ≤ c ∧ c < 131 ∨ c = 124 ∧ i = 7 ∨ c = 124 ∧ i = 8 ∨ c = 124 ∧ i = 28 ∨ c = 124 ∧ i = 29 ∨ c = 124 ∧ i = 31) (mst τ 124 0 0) t := ag_2 a0 (fun _ _ _ => by omega) a1 (fun _ _ _ => by omega)
    have hx2' : isX (17 + 8 * ((o + (e - 1)) % 8)) (mst σ 81 2 (nI (e - 1))) p2 n2 k2 := isX_tr hx2 (by rw [mst_ne _ _ _ (by omega)]) (by rw [mst_ne _ _ _ (by omega)]) (fun c i _ _ => by rw [mst_ne _ _ _ (by omega)])
    have hh2' : isH 135 (104 * (e - 1)) t0 p2 n2 k2 := isH_tr hv2.1 hv2.2.1 hh2 (fun i _ => a0 _ _ (by omega))
    have q : prb p2 n2 k2 (cpX 1 (17 + 8 * ((o + (e - 1)) % 8)) (mst σ 81 2 (nI (e - 1)))) t := ⟨hv2, isX_cp hv2.1 hv2.2.1 hx2', isM_of hv2 hh2' v1 v2 v3 v4⟩
    have qh : hiR (cpX 1 (17 + 8 * ((o + (e - 1)) % 8)) (mst σ 81 2 (nI (e - 1)))) t := by
      refine ⟨o, e - 1, ho, by omega, (ax _ _ (by omega)).trans y1, ?_, (a1 _ _ (by omega)).trans (by rw [← ht, mst_at, upd_at]), fun j hj => ?_⟩
      · rw [cpX_far _ _ _ (by omega), mst_at, upd_at]
      · obtain ⟨p3, n3, k3, hv3, hx3, hh3⟩ := y4 j (by omega)
        exact ⟨p3, n3, k3, hv3, isX_tr hx3 (ax _ _ (by omega)) (ax _ _ (by omega)) (fun c i _ _ => ax _ _ (by omega)), isH_tr hv3.1 hv3.2.1 hh3 (fun i _ => am _ _ (by omega))⟩
    obtain ⟨σ3, τ3, e5, e6, q3, ax3, am3⟩ := fin_R (B := B + 30) q qh g5 g7 g9 gA ax (fun _ _ _ => by omega) am (fun _ _ _ => by omega)
    have z1 : σ3 81 2 = nI (e - 1) := (ax3 _ _ (by omega)).trans (by rw [cpX_far _ _ _ (by omega), mst_at, upd_at])
    have z2 : τ3 124 28 = nI (e - 1) := (am3 _ _ (by omega)).trans ((a1 _ _ (by omega)).trans (by rw [← ht, mst_at, upd_at]))
    have z3 : τ3 124 0 = 0 := (am3 _ _ (by omega)).trans ((am _ _ (by omega)).trans (by rw [mst_at, upd_at]))
    have n0 : ¬ nI e = 0 := nI_ne0 (by omega) (by omega)
    refine ⟨0, mst σ3 155 0 (nI (e - 1)), nI (e - 1), τ3, ?_, ?_, RR_155 q3 _, z3, fun _ => by rw [mst_at, upd_at]⟩
    · unfold wL_undo fX9_undo
      rw [y2, if_neg n0, ex, bv_some, e5, bv_some, bx_inl, z1]
    · unfold fX10_undo
      simp only [lt]
      rw [y3', if_neg n0, y3, nI_d1 (by omega), ht, show t0 124 28 = nI (e - 1) by rw [← ht, mst_at, upd_at], show (104 : Int32) * nI (e - 1) = nI (104 * (e - 1)) from nI_mul 104 (e - 1), e1, bv_some, e6, bv_some, z2]
theorem S_restore : Sim wL_restore fX10_restore := by
  intro B σ τ hB h
  have h00 := h
  obtain ⟨p, n, k, bs, U, it, h⟩ := h
  obtain ⟨-, g1, -, -, -, g5, -, g7, g8, g9, gA, -⟩ := R0_0 h 0
  rcases g9 with ⟨z8, z30⟩ | ⟨z8, z30, p2, n2, k2, hv2, hx2, hh2⟩
  · have z30' : τ 124 30 = 0 := z30
    refine ⟨1, σ, 0, mst τ 124 0 1, ?_, ?_, RR_0 h00 1, by rw [mst_at, upd_at], fun h => absurd h (by decide)⟩
    · unfold wL_restore fX9_restore
      rw [z8, if_pos rfl, bx_inr, if_pos rfl]
    · unfold fX10_restore
      rw [z30', if_pos rfl, m_fails, bd_some]
  · have z30' : τ 124 30 = 1 := z30
    obtain ⟨o, e, ho, he, y1, y2, y3, y4⟩ := g8
    have ex : fX4_copyFrom 1 9 σ = some (cpX 1 9 σ) := copyFrom_eq _ _ _ (by omega)
    have ax0 := fq_X4_copyFrom ex
    obtain ⟨t, e1, v1, v2, v3, v4, a1⟩ := give_R (q := 136) (nn := 104) (a := 0) (by omega) (by omega) (by omega) (mst τ 124 0 0)
    generalize hs : mst (cpX 1 9 σ) 81 2 0 = s
    have as : Ag (fun c i => c = 81 ∧ i = 2) (cpX 1 9 σ) s := by rw [← hs]; exact ag_mst _ _ ⟨rfl, rfl⟩
    generalize ht : mst t 124 28 0 = t2
    have at2 : Ag (fun c i => c = 124 ∧ i = 28) t t2 := by rw [← ht]; exact ag_mst _ _ ⟨rfl, rfl⟩
    have ax : Ag (fun c i => 1 ≤ c ∧ c < 8 ∨ c = 81 ∧ i = 2) σ s := ag_2 ax0 (fun _ _ _ => by omega) as (fun _ _ _ => by omega)
    have am : Ag (fun c i => 125 ≤ c ∧ c < 131 ∨ c = 124 ∧ i = 7 ∨ c = 124 ∧ i = 8 ∨ c = 124 ∧ i = 28 ∨ c = 124 ∧ i = 29 ∨ c = 124 ∧ i = 31) (mst τ 124 0 0) t2 := ag_2 a1 (fun _ _ _ => by omega) at2 (fun _ _ _ => by omega)
    have q0 : prb p2 n2 k2 (cpX 1 9 σ) t := ⟨hv2, isX_cp hv2.1 hv2.2.1 hx2, isM_of hv2 hh2 v1 v2 v3 v4⟩
    have q := prb_tr q0 as (fun _ _ _ => by omega) at2 (fun _ _ _ => by omega)
    have qh : hiR s t2 := ⟨o, 0, ho, by omega, (ax _ _ (by omega)).trans y1, by rw [← hs, mst_at, upd_at]; rfl, by rw [← ht, mst_at, upd_at]; rfl, fun j hj => absurd hj (Nat.not_lt_zero j)⟩
    obtain ⟨σ3, τ3, e5, e6, q3, ax3, am3⟩ := fin_R (B := B + 30) q qh g5 g7 (Or.inr ⟨z8, z30, p2, n2, k2, hv2, hx2, hh2⟩) gA ax (fun _ _ _ => by omega) am (fun _ _ _ => by omega)
    have z1 : σ3 1 7 = nI n2 := (ax3 _ _ (by omega)).trans q.2.1.1
    have z2 : τ3 124 7 = nI n2 := (am3 _ _ (by omega)).trans q.2.2.1.1
    have z3 : τ3 124 0 = 0 := (am3 _ _ (by omega)).trans ((am _ _ (by omega)).trans (by rw [mst_at, upd_at]))
    refine ⟨0, mst σ3 155 0 (nI n2), nI n2, τ3, ?_, ?_, RR_155 q3 _, z3, fun _ => by rw [mst_at, upd_at]⟩
    · unfold wL_restore fX9_restore fX1_forget
      simp only [lt]
      rw [z8, if_neg (by decide), ex, bv_some, bv_some, hs, e5, bv_some, bx_inl, z1]
    · unfold fX10_restore
      simp only [lt]
      rw [z30', if_neg (by decide), show fX10_handsAll 136 104 (mst τ 124 0 0) 0 0 = some t from e1, bv_some, ht, e6, bv_some, z2]
