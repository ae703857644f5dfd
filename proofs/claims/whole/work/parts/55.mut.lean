/-! PURE, 15: the history on both sides; the calls that change the problem -/
theorem isX_cp {b o : Nat} {σ : Mem} {p : Nat → Nat → Int32} {n k : Nat} (hn : n ≤ 10) (hk : k ≤ 20) (h : isX o σ p n k) : isX b (cpX b o σ) p n k := by
  obtain ⟨h1, h2, h3, h4⟩ := h
  refine ⟨?_, ?_, fun v hv => ⟨?_, ?_⟩, fun c hc => ⟨?_, ?_, ?_, ?_⟩⟩
  · rw [cpX_0, upd_ne _ _ (by decide), upd_at]; exact h1
  · rw [cpX_0, upd_at]; exact h2
  · rw [cpX_10 b o σ (j := 1) (by omega)]; exact (if_pos (by omega)).trans (h3 v hv).1
  · rw [cpX_10 b o σ (j := 2) (by omega)]; exact (if_pos (by omega)).trans (h3 v hv).2
  · rw [cpX_20 b o σ (j := 3) (by omega)]; exact (if_pos (by omega)).trans (h4 c hc).1
  · rw [cpX_20 b o σ (j := 4) (by omega)]; exact (if_pos (by omega)).trans (h4 c hc).2.1
  · rw [cpX_20 b o σ (j := 5) (by omega)]; exact (if_pos (by omega)).trans (h4 c hc).2.2.1
  · rw [cpX_20 b o σ (j := 6) (by omega)]; exact (if_pos (by omega)).trans (h4 c hc).2.2.2
theorem nI_mul (a b : Nat) : nI a * nI b = nI (a * b) := (Int32.ofNat_mul a b).symm
def shF (f : Nat → Int32) (d i : Nat) : Nat → Int32 := fun j => if j < i then f (j + d) else f j
theorem shF_0 (f : Nat → Int32) (d : Nat) : shF f d 0 = f := by
  funext j
  unfold shF
  rw [if_neg (Nat.not_lt_zero j)]
theorem shF_s (f : Nat → Int32) (d i : Nat) (hd : 1 ≤ d) : upd (shF f d i) i (shF f d i (i + d)) = shF f d (i + 1) := by
  funext j
  unfold upd shF
  by_cases h1 : j = i
  · rw [if_pos h1, if_neg (by omega), if_pos (by omega), h1]
  · rw [if_neg h1]
    by_cases h2 : j < i
    · rw [if_pos h2, if_pos (by omega)]
    · rw [if_neg h2, if_neg (by omega)]
theorem shf_loop (τ : Mem) : ∀ (j i : Nat), i + j = 728 → ∀ N, j < N → fX10_remembers_L11 N (mw τ 135 (shF (τ 135) 104 i)) (nI i) = fX10_remembers_L49 (mst (mw τ 135 (shF (τ 135) 104 728)) 124 28 ((τ 124 28) - (1 : Int32))) := by
  intro j
  induction j with
  | zero =>
    intro i hi N hN
    obtain ⟨N, rfl, hN⟩ := nsub1 hN
    have e : i = 728 := by omega
    subst e
    rw [show fX10_remembers_L11 (N + 1) = fX10_remembers_B11 (fX10_remembers_L11 N) from rfl]
    unfold fX10_remembers_B11 lt
    rw [if_pos (by decide), mw_ne _ _ (by decide)]
  | succ j ih =>
    intro i hi N hN
    obtain ⟨N, rfl, hN⟩ := nsub1 hN
    rw [show fX10_remembers_L11 (N + 1) = fX10_remembers_B11 (fX10_remembers_L11 N) from rfl]
    unfold fX10_remembers_B11 lt
    rw [if_neg (show ¬ (728 : Int32) ≤ nI i from fun h => absurd ((le_i (a := 728) (b := i) (by omega) (by omega)).mp h) (by omega)), show nI i + (104 : Int32) = nI (i + 104) from nI_add i 104, ck_i (by omega) (by omega), ck_i (by omega) (by omega), cl_i (by omega), cl_i (by omega), mw_at, mst_mw, shF_s _ _ _ (by omega), nI_s]
    exact ih (i + 1) (by omega) N (by omega)
theorem rem49 {e : Nat} (he : e ≤ 7) {τ : Mem} (h : τ 124 28 = nI e) : ∃ τ', fX10_remembers_L49 τ = some τ' ∧ (∀ i, i < 10 → τ' 135 (104 * e + i) = τ 125 i ∧ τ' 135 (104 * e + 10 + i) = τ 126 i) ∧ (∀ i, i < 20 → τ' 135 (104 * e + 20 + i) = τ 127 i ∧ τ' 135 (104 * e + 40 + i) = τ 128 i ∧ τ' 135 (104 * e + 60 + i) = τ 129 i ∧ τ' 135 (104 * e + 80 + i) = τ 130 i) ∧ τ' 135 (104 * e + 100) = τ 124 7 ∧ τ' 135 (104 * e + 101) = τ 124 8 ∧ (∀ i, i < 104 * e → τ' 135 i = τ 135 i) ∧ τ' 124 28 = nI (e + 1) ∧ Ag (fun c i => c = 135 ∨ c = 124 ∧ i = 28 ∨ c = 124 ∧ i = 29 ∨ c = 124 ∧ i = 31) τ τ' := by
  obtain ⟨s, e1, v1, v2, v3, v4, v5, a1⟩ := keep_R (q := 135) (nn := 832) (a := 104 * e) (by omega) (by omega) (by omega) τ
  have k28 : s 124 28 = nI e := (a1 _ _ (by omega)).trans h
  refine ⟨mst s 124 28 (nI (e + 1)), ?_, ?_, ?_, ?_, ?_, ?_, ?_, ?_⟩
  · unfold fX10_remembers_L49
    simp only [lt]
    rw [h, show (104 : Int32) * nI e = nI (104 * e) from nI_mul 104 e, e1, bv_some, k28, nI_s]
  · intro i hi; rw [mst_ne _ _ _ (by decide)]; exact v1 i hi
  · intro i hi; rw [mst_ne _ _ _ (by decide)]; exact v2 i hi
  · rw [mst_ne _ _ _ (by decide)]; exact v3
  · rw [mst_ne _ _ _ (by decide)]; exact v4
  · intro i hi; rw [mst_ne _ _ _ (by decide)]; exact v5 i hi
  · rw [mst_at, upd_at]
  · exact ag_2 a1 (fun _ _ _ => by omega) (ag_mst _ _ (W := fun c i => c = 124 ∧ i = 28) ⟨rfl, rfl⟩) (fun _ _ _ => by omega)
theorem isH_of {q a : Nat} {τ τ' : Mem} {p : Nat → Nat → Int32} {n k : Nat} (hv : vld p n k) (hm : isM τ p n k) (v1 : ∀ i, i < 10 → τ' q (a + i) = τ 125 i ∧ τ' q (a + 10 + i) = τ 126 i) (v2 : ∀ i, i < 20 → τ' q (a + 20 + i) = τ 127 i ∧ τ' q (a + 40 + i) = τ 128 i ∧ τ' q (a + 60 + i) = τ 129 i ∧ τ' q (a + 80 + i) = τ 130 i) (v3 : τ' q (a + 100) = τ 124 7) (v4 : τ' q (a + 101) = τ 124 8) : isH q a τ' p n k := by
  obtain ⟨⟨m1, m2, m3, m4⟩, m5⟩ := hm
  have hn := hv.1
  have hk := hv.2.1
  refine ⟨v3.trans m1, v4.trans m2, fun v hv => ⟨(v1 v (by omega)).1.trans (m3 v hv), (v1 v (by omega)).2.trans (m5 v hv)⟩, fun c hc => ?_⟩
  obtain ⟨w1, w2, w3, w4⟩ := v2 c (by omega)
  obtain ⟨y1, y2, y3, y4⟩ := m4 c hc
  exact ⟨w1.trans y1, w2.trans y2, w3.trans y3, w4.trans y4⟩
theorem isM_of {q a : Nat} {τ τ' : Mem} {p : Nat → Nat → Int32} {n k : Nat} (hv : vld p n k) (hm : isH q a τ p n k) (v1 : ∀ i, i < 10 → τ' 125 i = τ q (a + i) ∧ τ' 126 i = τ q (a + 10 + i)) (v2 : ∀ i, i < 20 → τ' 127 i = τ q (a + 20 + i) ∧ τ' 128 i = τ q (a + 40 + i) ∧ τ' 129 i = τ q (a + 60 + i) ∧ τ' 130 i = τ q (a + 80 + i)) (v3 : τ' 124 7 = τ q (a + 100)) (v4 : τ' 124 8 = τ q (a + 101)) : isM τ' p n k := by
  obtain ⟨m1, m2, m3, m4⟩ := hm
  have hn := hv.1
  have hk := hv.2.1
  refine ⟨⟨v3.trans m1, v4.trans m2, fun v hv => (v1 v (by omega)).1.trans (m3 v hv).1, fun c hc => ?_⟩, fun v hv => (v1 v (by omega)).2.trans (m3 v hv).2⟩
  obtain ⟨w1, w2, w3, w4⟩ := v2 c (by omega)
  obtain ⟨y1, y2, y3, y4⟩ := m4 c hc
  exact ⟨w1.trans y1, w2.trans y2, w3.trans y3, w4.trans y4⟩
theorem rem_R {p : Nat → Nat → Int32} {n k : Nat} {σ τ : Mem} (h : prb p n k σ τ) (hh : hiR σ τ) : ∃ σ1 τ1, fX1_remember σ = some σ1 ∧ fX10_remembers τ = some τ1 ∧ prb p n k σ1 τ1 ∧ hiR σ1 τ1 ∧ Ag W_X1_remember σ σ1 ∧ Ag (fun c i => c = 135 ∨ c = 124 ∧ i = 28 ∨ c = 124 ∧ i = 29 ∨ c = 124 ∧ i = 31) τ τ1 := by
  obtain ⟨o, e, ho, he, h1, h2, h3, h4⟩ := hh
  have hv := h.1
  have hx := xremember σ ho he h1 h2
  have ax := fq_X1_remember hx
  by_cases c8 : e = 8
  · subst c8
    have hm : fX10_remembers τ = fX10_remembers_L49 (mst (mw τ 135 (shF (τ 135) 104 728)) 124 28 (nI 7)) := by
      unfold fX10_remembers
      rw [h3, if_pos (show nI 8 = (8 : Int32) from rfl)]
      have := shf_loop τ 728 0 (by omega) FU (FU_lt (by omega))
      rw [shF_0, mw_self, h3] at this
      exact this
    generalize ht0 : mst (mw τ 135 (shF (τ 135) 104 728)) 124 28 (nI 7) = t0 at hm
    have a0 : Ag (fun c i => c = 135 ∨ c = 124 ∧ i = 28) τ t0 := by
      rw [← ht0]
      exact ag_2 (ag_mw _ _ (W := fun c _ => c = 135) (fun _ => rfl)) (fun _ _ h => Or.inl h) (ag_mst _ _ (W := fun c i => c = 124 ∧ i = 28) ⟨rfl, rfl⟩) (fun _ _ h => Or.inr h)
    have r0 : ∀ i, i < 728 → t0 135 i = τ 135 (i + 104) := fun i hi => by
      rw [← ht0, mst_ne _ _ _ (by decide), mw_at]
      exact if_pos hi
    obtain ⟨t1, e1, v1, v2, v3, v4, v5, v6, a1⟩ := rem49 (e := 7) (by omega) (τ := t0) (by rw [← ht0, mst_at, upd_at])
    have am : Ag (fun c i => c = 135 ∨ c = 124 ∧ i = 28 ∨ c = 124 ∧ i = 29 ∨ c = 124 ∧ i = 31) τ t1 := ag_2 a0 (fun _ _ _ => by omega) a1 (fun _ _ _ => by omega)
    have p0 : prb p n k σ t0 := prb_tr h (ag_r (W := fun c _ => c < 0)) (fun _ _ _ => by omega) a0 (fun _ _ _ => by omega)
    refine ⟨_, t1, hx, hm.trans e1, prb_tr h ax (fun _ _ _ => by omega) am (fun _ _ _ => by omega), ⟨(o + 1) % 8, 8, by omega, by omega, ?_, ?_, v6, fun j hj => ?_⟩, ax, am⟩
    · unfold rem8; rw [if_pos rfl, mst_at, upd_at]
    · unfold rem8; rw [if_pos rfl, mst_at, upd_ne _ _ (by decide), cpX_far _ _ _ (by omega)]; exact h2
    · by_cases cj : j = 7
      · subst cj
        refine ⟨p, n, k, hv, ?_, isH_of hv p0.2.2 v1 v2 v3 v4⟩
        rw [show 17 + 8 * (((o + 1) % 8 + 7) % 8) = 17 + 8 * ((o + 8) % 8) by omega]
        unfold rem8
        rw [if_pos rfl]
        exact isX_tr (isX_cp hv.1 hv.2.1 h.2.1) (by rw [mst_ne _ _ _ (by omega)]) (by rw [mst_ne _ _ _ (by omega)]) (fun c i _ _ => by rw [mst_ne _ _ _ (by omega)])
      · obtain ⟨p2, n2, k2, hv2, hx2, hh2⟩ := h4 (j + 1) (by omega)
        refine ⟨p2, n2, k2, hv2, ?_, isH_tr hv2.1 hv2.2.1 hh2 (fun i hi => ?_)⟩
        · rw [show 17 + 8 * (((o + 1) % 8 + j) % 8) = 17 + 8 * ((o + (j + 1)) % 8) by omega]
          unfold rem8
          rw [if_pos rfl]
          refine isX_tr hx2 ?_ ?_ (fun c i _ _ => ?_)
          · rw [mst_ne _ _ _ (by omega), cpX_far _ _ _ (by omega)]
          · rw [mst_ne _ _ _ (by omega), cpX_far _ _ _ (by omega)]
          · rw [mst_ne _ _ _ (by omega), cpX_far _ _ _ (by omega)]
        · rw [v5 _ (by omega), r0 _ (by omega)]
          congr 1
          omega
  · have hm : fX10_remembers τ = fX10_remembers_L49 τ := by
      unfold fX10_remembers
      rw [h3, if_neg (show ¬ nI e = (8 : Int32) from fun hh => c8 ((eq_i (a := e) (b := 8) (by omega) (by omega)).1 hh))]
    obtain ⟨t1, e1, v1, v2, v3, v4, v5, v6, a1⟩ := rem49 (e := e) (by omega) h3
    refine ⟨_, t1, hx, hm.trans e1, prb_tr h ax (fun _ _ _ => by omega) a1 (fun _ _ _ => by omega), ⟨o, e + 1, ho, by omega, ?_, ?_, v6, fun j hj => ?_⟩, ax, a1⟩
    · unfold rem8; rw [if_neg c8, mst_at, upd_ne _ _ (by decide), cpX_far _ _ _ (by omega)]; exact h1
    · unfold rem8; rw [if_neg c8, mst_at, upd_at]
    · by_cases cj : j = e
      · subst cj
        refine ⟨p, n, k, hv, ?_, isH_of hv h.2.2 v1 v2 v3 v4⟩
        unfold rem8
        rw [if_neg c8]
        exact isX_tr (isX_cp hv.1 hv.2.1 h.2.1) (by rw [mst_ne _ _ _ (by omega)]) (by rw [mst_ne _ _ _ (by omega)]) (fun c i _ _ => by rw [mst_ne _ _ _ (by omega)])
      · obtain ⟨p2, n2, k2, hv2, hx2, hh2⟩ := h4 j (by omega)
        refine ⟨p2, n2, k2, hv2, ?_, isH_tr hv2.1 hv2.2.1 hh2 (fun i hi => v5 _ (by omega))⟩
        unfold rem8
        rw [if_neg c8]
        refine isX_tr hx2 ?_ ?_ (fun c i _ _ => ?_)
        · rw [mst_ne _ _ _ (by omega), cpX_far _ _ _ (by omega)]
        · rw [mst_ne _ _ _ (by omega), cpX_far _ _ _ (by omega)]
        · rw [mst_ne _ _ _ (by omega), cpX_far _ _ _ (by omega)]
