/-! PURE, 36: one combination weighed on both sides -/
def vst (p : Nat → Nat → Int32) (row : Nat → Int32) (n : Nat) : Nat → Int32
  | 0 => 0
  | c + 1 => if vioP p row n c ≤ 0 then vst p row n c else vst p row n c ||| ((1 : Int32) <<< (nI c &&& 31))
theorem nI_tn {a : Nat} (h : a < 2 ^ 32) : (nI a).toBitVec.toNat = a := by
  show (BitVec.ofNat 32 a).toNat = a
  rw [BitVec.toNat_ofNat, Nat.mod_eq_of_lt h]
theorem nI_or {a b : Nat} (ha : a < 2 ^ 31) (hb : b < 2 ^ 31) : nI a ||| nI b = nI (a ||| b) := by
  apply Int32.toBitVec_inj.mp
  apply BitVec.eq_of_toNat_eq
  have h1 : a ||| b < 2 ^ 31 := Nat.or_lt_two_pow ha hb
  rw [nI_tn (by omega)]
  show ((nI a).toBitVec ||| (nI b).toBitVec).toNat = _
  rw [BitVec.toNat_or, nI_tn (by omega), nI_tn (by omega)]
theorem nI_and {a b : Nat} (ha : a < 2 ^ 31) (hb : b < 2 ^ 31) : nI a &&& nI b = nI (a &&& b) := by
  apply Int32.toBitVec_inj.mp
  apply BitVec.eq_of_toNat_eq
  have h1 : a &&& b ≤ a := Nat.and_le_left
  rw [nI_tn (by omega)]
  show ((nI a).toBitVec &&& (nI b).toBitVec).toNat = _
  rw [BitVec.toNat_and, nI_tn (by omega), nI_tn (by omega)]
theorem shl_i {c : Nat} (hc : c ≤ 30) : (1 : Int32) <<< (nI c &&& 31) = nI (2 ^ c) := by
  have key : ∀ c, c ≤ 30 → (1 : Int32) <<< (nI c &&& 31) = nI (2 ^ c) := by decide +kernel
  exact key c hc
theorem vst_b (p : Nat → Nat → Int32) (row : Nat → Int32) (n : Nat) : ∀ c, c ≤ 20 → ∃ w : Nat, w < 2 ^ c ∧ vst p row n c = nI w
  | 0, _ => ⟨0, by decide, rfl⟩
  | c + 1, h => by
    obtain ⟨w, hw, e⟩ := vst_b p row n c (by omega)
    have e0 : vst p row n (c + 1) = if vioP p row n c ≤ 0 then vst p row n c else vst p row n c ||| ((1 : Int32) <<< (nI c &&& 31)) := rfl
    have h2 : 2 ^ (c + 1) = 2 ^ c * 2 := Nat.pow_succ 2 c
    have h3 : 2 ^ c ≤ 2 ^ 20 := Nat.pow_le_pow_right (by decide) (by omega)
    rw [e0]
    by_cases d : vioP p row n c ≤ 0
    · rw [if_pos d]; exact ⟨w, by omega, e⟩
    · rw [if_neg d, e, shl_i (by omega), nI_or (by omega) (by omega)]
      refine ⟨w ||| 2 ^ c, ?_, rfl⟩
      exact Nat.or_lt_two_pow (by omega) (by omega)
theorem xw_loop {σ : Mem} {p : Nat → Nat → Int32} {n k : Nat} {row : Nat → Int32} (hv : vld p n k) (hx : isX 1 σ p n k) (hr : ∀ v, v < n → σ 114 v = row v) (hs : ∀ v, v < n → sml (row v)) : ∀ (j c : Nat), c + j = k → ∀ N, j < N → ∀ σ', A8 σ σ' → ∃ N2 σ2, fX7_weigh_L7 N σ' (cst p row n c) (vst p row n c) (nI c) = fX7_weigh_B7 (fX7_weigh_L7 N2) σ2 (cst p row n k) (vst p row n k) (nI k) ∧ A8 σ σ2 := by
  have hk := hv.2.1
  intro j
  induction j with
  | zero =>
    intro c hc N hN σ' a
    obtain ⟨N, rfl, hN⟩ := nsub1 hN
    have e : c = k := by omega
    subst e
    exact ⟨N, σ', rfl, a⟩
  | succ j ih =>
    intro c hc N hN σ' a
    obtain ⟨N, rfl, hN⟩ := nsub1 hN
    have hx' := isX_ag hx a (fun _ _ _ => by omega)
    obtain ⟨σ1, e1, a1⟩ := xvioP (q := 114) (by decide) hv hx' (row := row) (fun v hv' => (a _ _ (by omega)).trans (hr v hv')) hs (c := c) (by omega)
    obtain ⟨N2, σ2, e2, a2⟩ := ih (c + 1) (by omega) N (by omega) σ1 (a8_t a a1)
    refine ⟨N2, σ2, ?_, a2⟩
    rw [← e2]
    have h7 : σ1 7 c = p 5 c := (a1 _ _ (by omega)).trans (hx'.2.2.2 c (by omega)).2.2.2
    have st : fX7_weigh_B7 (fX7_weigh_L7 N) σ' (cst p row n c) (vst p row n c) (nI c) = fX7_weigh_L7 N σ1 (cst p row n (c + 1)) (vst p row n (c + 1)) (nI (c + 1)) := by
      unfold fX7_weigh_B7 fX7_weigh_L53
      rw [hx'.2.1, if_neg (fun h => absurd ((le_i (by omega) (by omega)).1 h) (by omega)), e1, bd_some, ck_i (by omega) (by omega), li_e, li_e, cl_i (by omega), h7, nI_s]
      rw [show vst p row n (c + 1) = if vioP p row n c ≤ 0 then vst p row n c else vst p row n c ||| ((1 : Int32) <<< (nI c &&& 31)) from rfl]
      by_cases d : vioP p row n c ≤ 0
      · rw [if_pos d, if_pos d]; rfl
      · rw [if_neg d, if_neg d]; rfl
    exact st
theorem xweigh {σ : Mem} {p : Nat → Nat → Int32} {n k : Nat} {row : Nat → Int32} (hv : vld p n k) (hx : isX 1 σ p n k) (hr : ∀ v, v < n → σ 114 v = row v) (hs : ∀ v, v < n → sml (row v)) : ∃ σ', fX7_weigh σ = some σ' ∧ σ' 113 5 = (if σ 113 5 < cst p row n k then cst p row n k else σ 113 5) ∧ σ' 113 3 = (if cst p row n k < σ 113 3 then cst p row n k else σ 113 3) ∧ σ' 113 4 = (if cst p row n k < σ 113 3 then 1 else if cst p row n k = σ 113 3 then σ 113 4 + 1 else σ 113 4) ∧ σ' 113 6 = (if cst p row n k < σ 113 3 then vst p row n k else if cst p row n k = σ 113 3 then σ 113 6 &&& vst p row n k else σ 113 6) ∧ (∀ v, v < n → σ' 115 v = if cst p row n k < σ 113 3 then row v else σ 115 v) ∧ Ag W_X7_weigh σ σ' := by
  have hn := hv.1
  obtain ⟨N2, σ2, e2, a2⟩ := xw_loop hv hx hr hs k 0 (by omega) FU (FU_lt (Nat.lt_of_le_of_lt hv.2.1 (by omega))) σ ag_r
  rw [nI_0] at e2
  have e0 : fX7_weigh σ = fX7_weigh_B7 (fX7_weigh_L7 N2) σ2 (cst p row n k) (vst p row n k) (nI k) := e2
  generalize cst p row n k = cc at e0 ⊢
  generalize vst p row n k = vv at e0 ⊢
  clear e2
  have s3 : σ2 113 = σ 113 := funext fun i => a2 _ _ (by omega)
  have hx2 := isX_ag hx a2 (fun _ _ _ => by omega)
  unfold fX7_weigh_B7 at e0
  rw [hx2.2.1, if_pos (Int32.le_refl _), lt_e2, s3] at e0
  generalize hH : (if σ 113 5 < cc then cc else σ 113 5) = H at e0 ⊢
  have q5 : (mst σ2 113 5 H) 113 = upd (σ 113) 5 H := by rw [mst_at, s3]
  rw [show (mst σ2 113 5 H) 113 3 = σ 113 3 by rw [q5, upd_ne _ _ (by decide)]] at e0
  have a2' : Ag W_X7_weigh σ σ2 := ag_w a2 (fun _ _ h => Or.inl h)
  by_cases c : cc < σ 113 3
  · rw [if_neg (fun hh => nl_i hh c)] at e0
    simp only [lt_e2] at e0
    rw [show (10 : Int32) = nI 10 from rfl, ckc0 10 10 10 (by omega) (by omega) (by omega), mcp0 _ _ _ _ (by omega)] at e0
    have aw := fq_X7_weigh e0
    refine ⟨_, e0, ?_, ?_, ?_, ?_, fun v hv' => ?_, aw⟩
    · rw [mw_ne _ _ (by decide), mst_at, upd_ne _ _ (by decide), mst_at, upd_ne _ _ (by decide), mst_at, upd_ne _ _ (by decide), mst_at, upd_at]
    · rw [mw_ne _ _ (by decide), mst_at, upd_ne _ _ (by decide), mst_at, upd_ne _ _ (by decide), mst_at, upd_at, if_pos c]
    · rw [mw_ne _ _ (by decide), mst_at, upd_ne _ _ (by decide), mst_at, upd_at, if_pos c]
    · rw [mw_ne _ _ (by decide), mst_at, upd_at, if_pos c]
    · rw [mw_at, if_pos c, mst_ne _ _ _ (by decide), mst_ne _ _ _ (by decide), mst_ne _ _ _ (by decide), mst_ne _ _ _ (by decide)]
      exact (if_pos (by omega)).trans ((a2 _ _ (by omega)).trans (hr v hv'))
  · rw [if_pos (Int32.not_lt.mp c)] at e0
    by_cases d : cc = σ 113 3
    · rw [if_pos d] at e0
      simp only [lt_e2] at e0
      rw [show (mst σ2 113 5 H) 113 4 = σ 113 4 by rw [q5, upd_ne _ _ (by decide)], show (mst (mst σ2 113 5 H) 113 4 (σ 113 4 + 1)) 113 6 = σ 113 6 by rw [mst_at, upd_ne _ _ (by decide), q5, upd_ne _ _ (by decide)]] at e0
      have aw := fq_X7_weigh e0
      refine ⟨_, e0, ?_, ?_, ?_, ?_, fun v hv' => ?_, aw⟩
      · rw [mst_at, upd_ne _ _ (by decide), mst_at, upd_ne _ _ (by decide), mst_at, upd_at]
      · rw [mst_at, upd_ne _ _ (by decide), mst_at, upd_ne _ _ (by decide), q5, upd_ne _ _ (by decide), if_neg c]
      · rw [mst_at, upd_ne _ _ (by decide), mst_at, upd_at, if_neg c, if_pos d]
      · rw [mst_at, upd_at, if_neg c, if_pos d]
      · rw [if_neg c, mst_ne _ _ _ (by decide), mst_ne _ _ _ (by decide), mst_ne _ _ _ (by decide)]; exact a2 _ _ (by omega)
    · rw [if_neg d] at e0
      have aw := fq_X7_weigh e0
      refine ⟨_, e0, ?_, ?_, ?_, ?_, fun v hv' => ?_, aw⟩
      · rw [mst_at, upd_at]
      · rw [q5, upd_ne _ _ (by decide), if_neg c]
      · rw [q5, upd_ne _ _ (by decide), if_neg c, if_neg d]
      · rw [q5, upd_ne _ _ (by decide), if_neg c, if_neg d]
      · rw [if_neg c, mst_ne _ _ _ (by decide)]; exact a2 _ _ (by omega)
theorem mvs_loop {τ : Mem} {p : Nat → Nat → Int32} {n k : Nat} {row : Nat → Int32} (hv : vld p n k) (hx : isM0 τ p n k) (hr : ∀ v, v < n → τ 146 v = row v) (hs : ∀ v, v < n → sml (row v)) : ∀ (j c : Nat), c + j = k → ∀ N, j < N → ∀ τ', A131 τ τ' → ∃ τ2, fX10_violatedBy_L4 146 N τ' (vst p row n c) (nI c) = some (vst p row n k, τ2) ∧ A131 τ τ2 := by
  have hk := hv.2.1
  intro j
  induction j with
  | zero =>
    intro c hc N hN τ' a
    obtain ⟨N, rfl, hN⟩ := nsub1 hN
    have e : c = k := by omega
    subst e
    have hx' := isM0_ag hx a (fun _ _ _ => by omega)
    refine ⟨τ', ?_, a⟩
    rw [show fX10_violatedBy_L4 146 (N + 1) = fX10_violatedBy_B4 146 (fX10_violatedBy_L4 146 N) from rfl]
    unfold fX10_violatedBy_B4
    rw [hx'.2.1, if_pos ((le_i (by omega) (by omega)).2 (Nat.le_refl _))]
  | succ j ih =>
    intro c hc N hN τ' a
    obtain ⟨N, rfl, hN⟩ := nsub1 hN
    have hx' := isM0_ag hx a (fun _ _ _ => by omega)
    obtain ⟨τ1, e1, a1⟩ := mvioP (q := 146) (by decide) hv hx' (row := row) (fun v hv' => (a _ _ (by omega)).trans (hr v hv')) hs (c := c) (by omega)
    obtain ⟨τ2, e2, a2⟩ := ih (c + 1) (by omega) N (by omega) τ1 (a131_t a a1)
    refine ⟨τ2, ?_, a2⟩
    rw [show fX10_violatedBy_L4 146 (N + 1) = fX10_violatedBy_B4 146 (fX10_violatedBy_L4 146 N) from rfl]
    unfold fX10_violatedBy_B4 fX10_violatedBy_L29
    rw [hx'.2.1, if_neg (fun h => absurd ((le_i (by omega) (by omega)).1 h) (by omega)), e1, bd_some, nI_s]
    rw [show vst p row n (c + 1) = if vioP p row n c ≤ 0 then vst p row n c else vst p row n c ||| ((1 : Int32) <<< (nI c &&& 31)) from rfl] at e2
    by_cases d : vioP p row n c ≤ 0
    · rw [if_pos d]
      rw [if_pos d] at e2
      rw [Int32.or_zero]
      exact e2
    · rw [if_neg d]
      rw [if_neg d] at e2
      exact e2
theorem mfi_loop {τ : Mem} {n : Nat} {l : Int32} (hn : n ≤ 10) (h7 : τ 124 7 = nI n) (h42 : l < τ 124 42) (r44 : Mem → Option (Int32 × Mem)) : ∀ (j i : Nat), i + j = n → ∀ N, j < N → fX10_findsAll_L144 r44 N (mw τ 147 (cpyF (τ 146) (τ 147) i)) l (nI i) = fX10_findsAll_L178 r44 (mw τ 147 (cpyF (τ 146) (τ 147) n)) l := by
  intro j
  induction j with
  | zero =>
    intro i hi N hN
    obtain ⟨N, rfl, hN⟩ := nsub1 hN
    have e : i = n := by omega
    subst e
    rw [show fX10_findsAll_L144 r44 (N + 1) = fX10_findsAll_B144 r44 (fX10_findsAll_L144 r44 N) from rfl]
    unfold fX10_findsAll_B144
    rw [mw_ne _ _ (by decide : (124 : Nat) ≠ 147), h7, if_pos (Int32.le_refl _)]
  | succ j ih =>
    intro i hi N hN
    obtain ⟨N, rfl, hN⟩ := nsub1 hN
    rw [show fX10_findsAll_L144 r44 (N + 1) = fX10_findsAll_B144 r44 (fX10_findsAll_L144 r44 N) from rfl]
    unfold fX10_findsAll_B144
    rw [mw_ne _ _ (by decide : (124 : Nat) ≠ 147), h7, if_neg (fun h => absurd ((le_i (by omega) (by omega)).1 h) (by omega)), if_neg (fun hh => nl_i hh h42), ck_i (by omega) (by omega), ck_i (by omega) (by omega), lt_e2, cl_i (by omega), mw_ne _ _ (by decide : (146 : Nat) ≠ 147), mst_mw, cpy_s, nI_s]
    exact ih (i + 1) (by omega) N (by omega)
theorem mweigh {τ : Mem} {p : Nat → Nat → Int32} {n k : Nat} {row : Nat → Int32} (hv : vld p n k) (hx : isM0 τ p n k) (hr : ∀ v, v < n → τ 146 v = row v) (hs : ∀ v, v < n → sml (row v)) (r44 : Mem → Option (Int32 × Mem)) : ∃ τ', fX10_findsAll_B44 r44 τ = fX10_findsAll_L183 r44 τ' ∧ τ' 124 44 = (if τ 124 44 < cst p row n k then cst p row n k else τ 124 44) ∧ τ' 124 42 = (if cst p row n k < τ 124 42 then cst p row n k else τ 124 42) ∧ τ' 124 43 = (if cst p row n k < τ 124 42 then 1 else if cst p row n k = τ 124 42 then τ 124 43 + 1 else τ 124 43) ∧ τ' 124 45 = (if cst p row n k < τ 124 42 then vst p row n k else if cst p row n k = τ 124 42 then τ 124 45 &&& vst p row n k else τ 124 45) ∧ (∀ v, v < n → τ' 147 v = if cst p row n k < τ 124 42 then row v else τ 147 v) ∧ Ag (fun c i => c = 124 ∧ 42 ≤ i ∧ i < 46 ∨ c = 131 ∨ c = 147) τ τ' := by
  have hn := hv.1
  obtain ⟨τ1, e1, a1⟩ := mcostP (q := 146) (by decide) hv hx hr hs
  generalize hcc : cst p row n k = cc at e1 ⊢
  generalize hH : (if τ 124 44 < cc then cc else τ 124 44) = H
  have s1 : τ1 124 = τ 124 := funext fun i => a1 _ _ (by omega)
  have hB : fX10_findsAll_B44 r44 τ = fX10_findsAll_L70 r44 τ1 cc H := by
    unfold fX10_findsAll_B44
    rw [e1, bd_some, s1, ← hH]
    by_cases d : τ 124 44 < cc
    · rw [if_neg (fun hh => nl_i hh d), if_pos d]
    · rw [if_pos (Int32.not_lt.mp d), if_neg d]
  generalize ht2 : mst τ1 124 44 H = τ2
  have a2 : Ag (fun c i => c = 124 ∧ i = 44) τ1 τ2 := by rw [← ht2]; exact ag_mst _ _ ⟨rfl, rfl⟩
  have a02 : Ag (fun c i => c = 124 ∧ 42 ≤ i ∧ i < 46 ∨ c = 131 ∨ c = 147) τ τ2 := ag_2 a1 (fun _ _ _ => by omega) a2 (fun _ _ _ => by omega)
  have q44 : τ2 124 44 = H := by rw [← ht2, mst_at, upd_at]
  have q : ∀ i, i ≠ 44 → τ2 124 i = τ 124 i := fun i hi => (a2 _ _ (by omega)).trans (a1 _ _ (by omega))
  by_cases c : τ 124 42 < cc
  · refine ⟨τ2, ?_, q44, ?_, ?_, ?_, fun v hv' => ?_, a02⟩
    · rw [hB]
      unfold fX10_findsAll_L70
      rw [lt_e2, ht2, q 42 (by decide), if_neg (fun hh => nl_i hh c)]
    · rw [q 42 (by decide), if_neg (fun hh => Int32.lt_irrefl (Int32.lt_trans c hh))]
    · rw [q 43 (by decide), if_neg (fun hh => Int32.lt_irrefl (Int32.lt_trans c hh)), if_neg (fun hh => by rw [hh] at c; exact Int32.lt_irrefl c)]
    · rw [q 45 (by decide), if_neg (fun hh => Int32.lt_irrefl (Int32.lt_trans c hh)), if_neg (fun hh => by rw [hh] at c; exact Int32.lt_irrefl c)]
    · rw [if_neg (fun hh => Int32.lt_irrefl (Int32.lt_trans c hh))]
      exact (a2 _ _ (by omega)).trans (a1 _ _ (by omega))
  · have cle : cc ≤ τ 124 42 := Int32.not_lt.mp c
    -- the number of ways, then the violated ones
    generalize hW : (if cc < τ 124 42 then (1 : Int32) else if cc = τ 124 42 then τ 124 43 + 1 else τ 124 43) = W
    generalize ht3 : mst τ2 124 43 W = τ3
    have a3 : Ag (fun c i => c = 124 ∧ i = 43) τ2 τ3 := by rw [← ht3]; exact ag_mst _ _ ⟨rfl, rfl⟩
    have a03 : Ag (fun c i => c = 124 ∧ 42 ≤ i ∧ i < 46 ∨ c = 131 ∨ c = 147) τ τ3 := ag_2 a02 (fun _ _ h => h) a3 (fun _ _ _ => by omega)
    have q3 : ∀ i, i ≠ 43 → i ≠ 44 → τ3 124 i = τ 124 i := fun i h1 h2 => (a3 _ _ (by omega)).trans (q i h2)
    obtain ⟨τ4, e4, a4⟩ := mvs_loop hv (isM0_ag hx a03 (fun _ _ _ => by omega)) (row := row) (fun v hv' => (a03 _ _ (by omega)).trans (hr v hv')) hs k 0 (by omega) FU (FU_lt (Nat.lt_of_le_of_lt hv.2.1 (by omega))) τ3 ag_r
    rw [nI_0] at e4
    have e4' : fX10_violatedBy 146 τ3 = some (vst p row n k, τ4) := e4
    generalize vst p row n k = vv at e4' ⊢
    clear e4
    generalize hA : (if cc < τ 124 42 then vv else if cc = τ 124 42 then τ 124 45 &&& vv else τ 124 45) = A
    generalize ht5 : mst τ4 124 45 A = τ5
    have a5 : Ag (fun c i => c = 124 ∧ i = 45) τ4 τ5 := by rw [← ht5]; exact ag_mst _ _ ⟨rfl, rfl⟩
    have a05 : Ag (fun c i => c = 124 ∧ 42 ≤ i ∧ i < 46 ∨ c = 131 ∨ c = 147) τ τ5 := ag_2 a03 (fun _ _ h => h) (ag_2 (W2 := fun c i => c = 124 ∧ 42 ≤ i ∧ i < 46 ∨ c = 131) a4 (fun _ _ _ => by omega) a5 (fun _ _ _ => by omega)) (fun _ _ _ => by omega)
    have q542 : τ5 124 42 = τ 124 42 := (a5 _ _ (by omega)).trans ((a4 _ _ (by omega)).trans (q3 42 (by decide) (by decide)))
    have h57 : τ5 124 7 = nI n := (a05 _ _ (by omega)).trans hx.1
    have hL : fX10_findsAll_L70 r44 τ1 cc H = fX10_findsAll_L144 r44 FU τ5 cc 0 := by
      unfold fX10_findsAll_L70 fX10_findsAll_L103 fX10_findsAll_L139
      rw [lt_e2, ht2, q 42 (by decide), if_pos cle]
      by_cases d : cc < τ 124 42
      · rw [if_pos d] at hW hA
        rw [if_neg (fun hh => nl_i hh d), lt_e2, hW, ht3, q3 42 (by decide) (by decide), if_neg (fun hh => nl_i hh d), e4', bd_some, lt_e2, hA, ht5]
      · have de : cc = τ 124 42 := Int32.le_antisymm cle (Int32.not_lt.mp d)
        rw [if_neg d, if_pos de] at hW hA
        rw [if_pos (Int32.not_lt.mp d), lt_e2, q 43 (by decide), hW, ht3, q3 42 (by decide) (by decide), if_pos (Int32.not_lt.mp d), e4', bd_some, lt_e2, q3 45 (by decide) (by decide), hA, ht5]
    by_cases d : cc < τ 124 42
    · have e6 := mfi_loop (l := cc) hn h57 (by rw [q542]; exact d) r44 n 0 (by omega) FU (FU_lt (by omega))
      rw [cpy_0, mw_self, nI_0] at e6
      have a6 : Ag (fun c i => c = 124 ∧ i = 42 ∨ c = 147) τ5 (mst (mw τ5 147 (cpyF (τ5 146) (τ5 147) n)) 124 42 cc) := ag_2 (ag_mw (W := fun c _ => c = 147) _ _ (fun _ => rfl)) (fun _ _ h => Or.inr h) (ag_mst (W := fun c i => c = 124 ∧ i = 42) _ _ ⟨rfl, rfl⟩) (fun _ _ h => Or.inl h)
      refine ⟨mst (mw τ5 147 (cpyF (τ5 146) (τ5 147) n)) 124 42 cc, ?_, (a6 _ _ (by omega)).trans ((a5 _ _ (by omega)).trans ((a4 _ _ (by omega)).trans ((a3 _ _ (by omega)).trans q44))), ?_, (a6 _ _ (by omega)).trans ((a5 _ _ (by omega)).trans ((a4 _ _ (by omega)).trans (by rw [← ht3, mst_at, upd_at]))), (a6 _ _ (by omega)).trans (by rw [← ht5, mst_at, upd_at]), fun v hv' => ?_, ag_2 a05 (fun _ _ h => h) a6 (fun _ _ _ => by omega)⟩
      · rw [hB, hL, e6]
        unfold fX10_findsAll_L178
        rw [lt_e2]
      · rw [mst_at, upd_at, if_pos d]
      · rw [if_pos d, mst_ne _ _ _ (by decide), mw_at]
        exact (if_pos hv').trans ((a05 _ _ (by omega)).trans (hr v hv'))
    · have de : cc = τ 124 42 := Int32.le_antisymm cle (Int32.not_lt.mp d)
      have a6 : Ag (fun c i => c = 124 ∧ i = 42) τ5 (mst τ5 124 42 cc) := ag_mst _ _ ⟨rfl, rfl⟩
      refine ⟨mst τ5 124 42 cc, ?_, (a6 _ _ (by omega)).trans ((a5 _ _ (by omega)).trans ((a4 _ _ (by omega)).trans ((a3 _ _ (by omega)).trans q44))), ?_, (a6 _ _ (by omega)).trans ((a5 _ _ (by omega)).trans ((a4 _ _ (by omega)).trans (by rw [← ht3, mst_at, upd_at]))), (a6 _ _ (by omega)).trans (by rw [← ht5, mst_at, upd_at]), fun v hv' => ?_, ag_2 a05 (fun _ _ h => h) a6 (fun _ _ _ => by omega)⟩
      · rw [hB, hL]
        obtain ⟨N9, hN9⟩ : ∃ N9, FU = N9 + 1 := ⟨4194303, rfl⟩
        rw [hN9, show fX10_findsAll_L144 r44 (N9 + 1) = fX10_findsAll_B144 r44 (fX10_findsAll_L144 r44 N9) from rfl]
        unfold fX10_findsAll_B144 fX10_findsAll_L178
        rw [q542, if_pos (Int32.not_lt.mp d), ite_self, lt_e2]
      · rw [mst_at, upd_at, if_neg d]; exact de
      · rw [if_neg d]
        refine (a6 _ _ (by omega)).trans ((a5 _ _ (by omega)).trans ((a4 _ _ (by omega)).trans ((a3 _ _ (by omega)).trans ((a2 _ _ (by omega)).trans (a1 _ _ (by omega))))))
