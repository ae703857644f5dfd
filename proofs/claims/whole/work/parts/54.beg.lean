/-! PURE, 14: costs and violations by the problem; a search begins on both sides; the reference's hands all together -/
theorem vld_sml {p : Nat → Nat → Int32} {n k : Nat} (h : vld p n k) : ∀ v, v < n → sml (p 1 v) := fun v hv => by
  obtain ⟨s, w, h1, h2, h3, h4, h5⟩ := h.2.2.1 v hv
  exact ⟨w, by omega, h5⟩
theorem bst_sml {p : Nat → Nat → Int32} {n : Nat} {bs : Nat → Int32} (h : bstOk p n bs) : ∀ v, v < n → sml (bs v) := fun v hv => by
  obtain ⟨s, w, h1, h2, h3, h4, h5⟩ := h v hv
  exact ⟨w, by omega, h5⟩
theorem xcostP {q : Nat} (hq : q ≠ 8) {σ : Mem} {p : Nat → Nat → Int32} {n k : Nat} (hv : vld p n k) (hx : isX 1 σ p n k) {row : Nat → Int32} (hr : ∀ v, v < n → σ q v = row v) (hs : ∀ v, v < n → sml (row v)) : ∃ σ', fX4_costIn q σ = some (cst p row n k, σ') ∧ Ag (fun c _ => c = 8) σ σ' := by
  obtain ⟨h1, h2, h3, h4⟩ := hx
  obtain ⟨f', e⟩ := xcost' hq (σ := σ) (n := n) (k := k) ⟨hv.1, hv.2.1, h1, h2, fun c hc => (h4 c hc).1 ▸ (hv.2.2.2 c hc).1, fun v hv' => hr v hv' ▸ hs v hv'⟩
  refine ⟨_, e.trans ?_, ag_mw σ f' (fun _ => rfl)⟩
  rw [cst_congr (p2 := p) (r2 := row) hr k (fun c hc => ⟨(h4 c hc).1, (h4 c hc).2.1, (h4 c hc).2.2.1, (h4 c hc).2.2.2⟩)]
theorem mcostP {q : Nat} (hq : q ≠ 131) {τ : Mem} {p : Nat → Nat → Int32} {n k : Nat} (hv : vld p n k) (hx : isM0 τ p n k) {row : Nat → Int32} (hr : ∀ v, v < n → τ q v = row v) (hs : ∀ v, v < n → sml (row v)) : ∃ τ', fX10_costOf q τ = some (cst p row n k, τ') ∧ Ag (fun c _ => c = 131) τ τ' := by
  obtain ⟨h1, h2, h3, h4⟩ := hx
  obtain ⟨f', e⟩ := mcost' hq (σ := τ) (n := n) (k := k) ⟨hv.1, hv.2.1, h1, h2, fun c hc => (h4 c hc).1 ▸ (hv.2.2.2 c hc).1, fun v hv' => hr v hv' ▸ hs v hv'⟩
  refine ⟨_, e.trans ?_, ag_mw τ f' (fun _ => rfl)⟩
  rw [cst_congr (p2 := p) (r2 := row) hr k (fun c hc => ⟨(h4 c hc).1, (h4 c hc).2.1, (h4 c hc).2.2.1, (h4 c hc).2.2.2⟩)]
theorem xvioP {q : Nat} (hq : q ≠ 8) {σ : Mem} {p : Nat → Nat → Int32} {n k : Nat} (hv : vld p n k) (hx : isX 1 σ p n k) {row : Nat → Int32} (hr : ∀ v, v < n → σ q v = row v) (hs : ∀ v, v < n → sml (row v)) {c : Nat} (hc : c < k) : ∃ σ', fX4_violationIn q σ (nI c) = some (vioP p row n c, σ') ∧ Ag (fun c _ => c = 8) σ σ' := by
  obtain ⟨h1, h2, h3, h4⟩ := hx
  have hk := hv.2.1
  obtain ⟨f', e⟩ := xvio q hq σ c n (by omega) hv.1 h1 ((h4 c hc).1 ▸ (hv.2.2.2 c hc).1) (fun v hv' => hr v hv' ▸ hs v hv')
  refine ⟨_, e.trans ?_, ag_mw σ f' (fun _ => rfl)⟩
  rw [vioP_congr (p2 := p) (r2 := row) (n := n) (c := c) (h4 c hc).1 (h4 c hc).2.1 (h4 c hc).2.2.1 hr]
theorem mvioP {q : Nat} (hq : q ≠ 131) {τ : Mem} {p : Nat → Nat → Int32} {n k : Nat} (hv : vld p n k) (hx : isM0 τ p n k) {row : Nat → Int32} (hr : ∀ v, v < n → τ q v = row v) (hs : ∀ v, v < n → sml (row v)) {c : Nat} (hc : c < k) : ∃ τ', fX10_violationOf q τ (nI c) = some (vioP p row n c, τ') ∧ Ag (fun c _ => c = 131) τ τ' := by
  obtain ⟨h1, h2, h3, h4⟩ := hx
  have hk := hv.2.1
  obtain ⟨f', e⟩ := mvio q hq τ c n (by omega) hv.1 h1 ((h4 c hc).1 ▸ (hv.2.2.2 c hc).1) (fun v hv' => hr v hv' ▸ hs v hv')
  refine ⟨_, e.trans ?_, ag_mw τ f' (fun _ => rfl)⟩
  rw [vioP_congr (p2 := p) (r2 := row) (n := n) (c := c) (h4 c hc).1 (h4 c hc).2.1 (h4 c hc).2.2.1 hr]
theorem begin_R {B : Nat} {p : Nat → Nat → Int32} {n k : Nat} {σ τ : Mem} (h : prb p n k σ τ) (hs : stt σ τ) (hl : ∃ o : Nat, o < 40 ∧ σ 104 1 = nI o) (hh : hiR σ τ) (ha : saR σ τ) (ht : teR σ τ) : ∃ σ1 τ1, fX9_beginSearch σ = some σ1 ∧ fX10_begins τ = some τ1 ∧ RR B σ1 τ1 := by
  have h0 := h
  obtain ⟨hv, ⟨x1, x2, x3, x4⟩, ⟨m1, m2, m3, m4⟩, m5⟩ := h0
  have hsm := vld_sml hv
  have hn := hv.1
  obtain ⟨f8, e1⟩ := xbegin (σ := σ) (n := n) (k := k) ⟨hv.1, hv.2.1, x1, x2, fun c hc => (x4 c hc).1 ▸ (hv.2.2.2 c hc).1, fun v hv' => (x3 v hv').2 ▸ hsm v hv'⟩
  obtain ⟨f1, e2⟩ := mbegin (σ := τ) (n := n) (k := k) ⟨hv.1, hv.2.1, m1, m2, fun c hc => (m4 c hc).1 ▸ (hv.2.2.2 c hc).1, fun v hv' => m5 v hv' ▸ hsm v hv'⟩
  rw [cst_congr (p2 := p) (r2 := p 1) (fun v hv' => (x3 v hv').2) k (fun c hc => ⟨(x4 c hc).1, (x4 c hc).2.1, (x4 c hc).2.2.1, (x4 c hc).2.2.2⟩)] at e1
  rw [cst_congr (p2 := p) (r2 := p 1) m5 k (fun c hc => ⟨(m4 c hc).1, (m4 c hc).2.1, (m4 c hc).2.2.1, (m4 c hc).2.2.2⟩)] at e2
  have a1 := fq_X9_beginSearch e1
  have a2 := fq_X10_begins e2
  obtain ⟨o, ho, hl⟩ := hl
  refine ⟨_, _, e1, e2, p, n, k, p 1, fun _ _ => 0, 0, Nat.zero_le _, prb_tr h a1 (fun _ _ _ => by omega) a2 (fun _ _ _ => by omega), ⟨hv.2.2.1, fun v hv' => ⟨?_, ?_⟩, ?_, ?_⟩, ?_, ⟨?_, ?_, ?_⟩, stt_tr hs a1 (fun _ _ _ => by omega) a2 (fun _ _ _ => by omega), ⟨?_, ?_, fun v a hv' ha' => ⟨Nat.zero_le _, ?_, ?_⟩⟩, ⟨o, 0, ho, Nat.zero_le _, (a1 _ _ (by omega)).trans hl, ?_, ?_, fun j hj => absurd hj (Nat.not_lt_zero j)⟩, hiR_tr hh a1 (fun _ _ _ => by omega) a2 (fun _ _ _ => by omega), saR_tr ha a1 (fun _ _ _ => by omega) a2 (fun _ _ _ => by omega), teR_tr ht a1 (fun _ _ _ => by omega) a2 (fun _ _ _ => by omega), Or.inl ?_⟩
  · rw [begX_85]
    exact (if_pos (by omega)).trans (x3 v hv').2
  · rw [begM_132]
    exact (if_pos (by omega)).trans (m5 v hv')
  · rw [begX_84]; rfl
  · rw [begM_124]; rfl
  · rw [begM_124]; rfl
  · rw [begX_84, begM_124]; rfl
  · rw [begX_84, begM_124]; rfl
  · rw [begX_84, begM_124]; rfl
  · rw [begX_84]; rfl
  · rw [begM_124]; rfl
  · rw [begX_free _ _ _ hv'.1]
    exact if_pos ha'
  · rw [begM_133]
    exact (if_pos (by omega)).trans (show (-1 : Int32) = nI 0 - 1 by decide)
  · rw [begX_104]; rfl
  · rw [begM_124]; rfl
  · rw [begX_113]; rfl
-- the reference's hands, by what they do
theorem hnd_R {q1 nn1 q2 nn2 a : Nat} (h1 : q1 ≠ q2) (h2 : q1 ≠ 124) (h3 : q2 ≠ 124) (hn : a + nn1 ≤ nn2) (hm : nn2 ≤ 1000) {σ : Mem} (hk : σ 124 31 = 1) (ha : σ 124 29 = nI a) : ∃ σ', fX10_hands q1 nn1 q2 nn2 σ = some σ' ∧ σ' 124 29 = nI (a + nn1) ∧ (∀ i, i < nn1 → σ' q2 (a + i) = σ q1 i) ∧ (∀ i, i < a ∨ a + nn1 ≤ i → σ' q2 i = σ q2 i) ∧ Ag (fun c i => c = q2 ∨ c = 124 ∧ i = 29) σ σ' := by
  have h3' : 124 ≠ q2 := fun h => h3 h.symm
  refine ⟨_, hands_eq h1 h2 h3 hn hm σ hk ha, ?_, ?_, ?_, ?_⟩
  · unfold hnd; rw [mst_at, upd_at]
  · intro i hi
    unfold hnd
    rw [mst_ne _ _ _ h3, mw_at]
    unfold slc
    rw [if_pos (by omega), show a + i - a = i by omega]
  · intro i hi
    unfold hnd
    rw [mst_ne _ _ _ h3, mw_at]
    unfold slc
    rw [if_neg (by omega)]
  · unfold hnd
    exact ag_2 (ag_mw σ _ (W := fun c _ => c = q2) (fun _ => rfl)) (fun _ _ h => Or.inl h) (ag_mst _ _ (W := fun c i => c = 124 ∧ i = 29) ⟨rfl, rfl⟩) (fun _ _ h => Or.inr h)
theorem hbk_R {q1 nn1 q2 nn2 a : Nat} (h1 : q1 ≠ q2) (h2 : q1 ≠ 124) (h3 : q2 ≠ 124) (hn : a + nn1 ≤ nn2) (hm : nn2 ≤ 1000) {σ : Mem} (hk : σ 124 31 = 0) (ha : σ 124 29 = nI a) : ∃ σ', fX10_hands q1 nn1 q2 nn2 σ = some σ' ∧ σ' 124 29 = nI (a + nn1) ∧ (∀ i, i < nn1 → σ' q1 i = σ q2 (a + i)) ∧ Ag (fun c i => c = q1 ∨ c = 124 ∧ i = 29) σ σ' := by
  refine ⟨_, back_eq h1 h2 h3 hn hm σ hk ha, ?_, ?_, ?_⟩
  · unfold hbk; rw [mst_at, upd_at]
  · intro i hi
    unfold hbk
    rw [mst_ne _ _ _ h2, mw_at]
    unfold slb
    rw [if_pos hi]
  · unfold hbk
    exact ag_2 (ag_mw σ _ (W := fun c _ => c = q1) (fun _ => rfl)) (fun _ _ h => Or.inl h) (ag_mst _ _ (W := fun c i => c = 124 ∧ i = 29) ⟨rfl, rfl⟩) (fun _ _ h => Or.inr h)
theorem keep_R {q nn a : Nat} (hq : 131 ≤ q) (hn : a + 104 ≤ nn) (hm : nn ≤ 1000) (τ : Mem) : ∃ τ', fX10_handsAll q nn τ (nI a) 1 = some τ' ∧ (∀ i, i < 10 → τ' q (a + i) = τ 125 i ∧ τ' q (a + 10 + i) = τ 126 i) ∧ (∀ i, i < 20 → τ' q (a + 20 + i) = τ 127 i ∧ τ' q (a + 40 + i) = τ 128 i ∧ τ' q (a + 60 + i) = τ 129 i ∧ τ' q (a + 80 + i) = τ 130 i) ∧ τ' q (a + 100) = τ 124 7 ∧ τ' q (a + 101) = τ 124 8 ∧ (∀ i, i < a → τ' q i = τ q i) ∧ Ag (fun c i => c = q ∨ c = 124 ∧ i = 29 ∨ c = 124 ∧ i = 31) τ τ' := by
  have q4 : q ≠ 124 := by omega
  have q4' : 124 ≠ q := by omega
  generalize hs0 : mst (mst τ 124 31 1) 124 29 (nI a) = s0
  have a0 : Ag (fun c i => c = 124 ∧ i = 29 ∨ c = 124 ∧ i = 31) τ s0 := by
    rw [← hs0]
    exact ag_2 (ag_mst _ _ (W := fun c i => c = 124 ∧ i = 31) ⟨rfl, rfl⟩) (fun _ _ h => Or.inr h) (ag_mst _ _ (W := fun c i => c = 124 ∧ i = 29) ⟨rfl, rfl⟩) (fun _ _ h => Or.inl h)
  have k0 : s0 124 31 = 1 := by rw [← hs0, mst_at, upd_ne _ _ (by decide), mst_at, upd_at]
  have c0 : s0 124 29 = nI a := by rw [← hs0, mst_at, upd_at]
  obtain ⟨s1, e1, c1, v1, u1, a1⟩ := hnd_R (q1 := 125) (nn1 := 10) (q2 := q) (nn2 := nn) (a := a) (by omega) (by decide) q4 (by omega) hm k0 c0
  have k1 : s1 124 31 = 1 := (a1 _ _ (by omega)).trans k0
  obtain ⟨s2, e2, c2, v2, u2, a2⟩ := hnd_R (q1 := 126) (nn1 := 10) (q2 := q) (nn2 := nn) (a := a + 10) (by omega) (by decide) q4 (by omega) hm k1 c1
  have k2 : s2 124 31 = 1 := (a2 _ _ (by omega)).trans k1
  obtain ⟨s3, e3, c3, v3, u3, a3⟩ := hnd_R (q1 := 127) (nn1 := 20) (q2 := q) (nn2 := nn) (a := a + 10 + 10) (by omega) (by decide) q4 (by omega) hm k2 c2
  have k3 : s3 124 31 = 1 := (a3 _ _ (by omega)).trans k2
  obtain ⟨s4, e4, c4, v4, u4, a4⟩ := hnd_R (q1 := 128) (nn1 := 20) (q2 := q) (nn2 := nn) (a := a + 10 + 10 + 20) (by omega) (by decide) q4 (by omega) hm k3 c3
  have k4 : s4 124 31 = 1 := (a4 _ _ (by omega)).trans k3
  obtain ⟨s5, e5, c5, v5, u5, a5⟩ := hnd_R (q1 := 129) (nn1 := 20) (q2 := q) (nn2 := nn) (a := a + 10 + 10 + 20 + 20) (by omega) (by decide) q4 (by omega) hm k4 c4
  have k5 : s5 124 31 = 1 := (a5 _ _ (by omega)).trans k4
  obtain ⟨s6, e6, c6, v6, u6, a6⟩ := hnd_R (q1 := 130) (nn1 := 20) (q2 := q) (nn2 := nn) (a := a + 10 + 10 + 20 + 20 + 20) (by omega) (by decide) q4 (by omega) hm k5 c5
  have f1 : ∀ c i, 125 ≤ c → c < 131 → s1 c i = τ c i := fun c i _ _ => (a1 _ _ (by omega)).trans (a0 _ _ (by omega))
  have f2 : ∀ c i, 125 ≤ c → c < 131 → s2 c i = τ c i := fun c i g1 g2 => (a2 _ _ (by omega)).trans (f1 c i g1 g2)
  have f3 : ∀ c i, 125 ≤ c → c < 131 → s3 c i = τ c i := fun c i g1 g2 => (a3 _ _ (by omega)).trans (f2 c i g1 g2)
  have f4 : ∀ c i, 125 ≤ c → c < 131 → s4 c i = τ c i := fun c i g1 g2 => (a4 _ _ (by omega)).trans (f3 c i g1 g2)
  have f5 : ∀ c i, 125 ≤ c → c < 131 → s5 c i = τ c i := fun c i g1 g2 => (a5 _ _ (by omega)).trans (f4 c i g1 g2)
  have g7 : s6 124 7 = τ 124 7 := ((a6 _ _ (by omega)).trans ((a5 _ _ (by omega)).trans ((a4 _ _ (by omega)).trans ((a3 _ _ (by omega)).trans ((a2 _ _ (by omega)).trans ((a1 _ _ (by omega)).trans (a0 _ _ (by omega))))))))
  have g8 : s6 124 8 = τ 124 8 := ((a6 _ _ (by omega)).trans ((a5 _ _ (by omega)).trans ((a4 _ _ (by omega)).trans ((a3 _ _ (by omega)).trans ((a2 _ _ (by omega)).trans ((a1 _ _ (by omega)).trans (a0 _ _ (by omega))))))))
  have c6' : s6 124 29 = nI (a + 100) := c6
  refine ⟨mst (mst s6 q (a + 100) (τ 124 7)) q (a + 101) (τ 124 8), ?_, ?_, ?_, ?_, ?_, ?_, ?_⟩
  · unfold fX10_handsAll ckz
    rw [if_pos (Or.inr rfl)]
    simp only [lt]
    rw [hs0, e1, bv_some, e2, bv_some, e3, bv_some, e4, bv_some, e5, bv_some, e6, bv_some, if_neg (by decide), c6', ck_i (by omega) (by omega), cl_i (by omega), g7, mst_ne _ _ _ q4', c6', nI_s, ck_i (by omega) (by omega), cl_i (by omega), g8]
  · intro i hi
    rw [mst_at, upd_ne _ _ (by omega), upd_ne _ _ (by omega), mst_at, upd_ne _ _ (by omega), upd_ne _ _ (by omega)]
    exact ⟨(u6 _ (by omega)).trans ((u5 _ (by omega)).trans ((u4 _ (by omega)).trans ((u3 _ (by omega)).trans ((u2 _ (by omega)).trans ((v1 i hi).trans (a0 _ _ (by omega))))))), (u6 _ (by omega)).trans ((u5 _ (by omega)).trans ((u4 _ (by omega)).trans ((u3 _ (by omega)).trans ((v2 i hi).trans (f1 _ _ (by omega) (by omega))))))⟩
  · intro i hi
    rw [mst_at, upd_ne _ _ (by omega), upd_ne _ _ (by omega), upd_ne _ _ (by omega), upd_ne _ _ (by omega), mst_at, upd_ne _ _ (by omega), upd_ne _ _ (by omega), upd_ne _ _ (by omega), upd_ne _ _ (by omega)]
    exact ⟨(u6 _ (by omega)).trans ((u5 _ (by omega)).trans ((u4 _ (by omega)).trans ((v3 i hi).trans (f2 _ _ (by omega) (by omega))))), (u6 _ (by omega)).trans ((u5 _ (by omega)).trans ((v4 i hi).trans (f3 _ _ (by omega) (by omega)))), (u6 _ (by omega)).trans ((v5 i hi).trans (f4 _ _ (by omega) (by omega))), (v6 i hi).trans (f5 _ _ (by omega) (by omega))⟩
  · rw [mst_at, upd_ne _ _ (by omega), mst_at, upd_at]
  · rw [mst_at, upd_at]
  · intro i hi
    rw [mst_at, upd_ne _ _ (by omega), mst_at, upd_ne _ _ (by omega)]
    exact (u6 _ (by omega)).trans ((u5 _ (by omega)).trans ((u4 _ (by omega)).trans ((u3 _ (by omega)).trans ((u2 _ (by omega)).trans ((u1 _ (by omega)).trans (a0 _ _ (by omega)))))))
  · intro c i hc
    rw [mst_ne _ _ _ (by omega), mst_ne _ _ _ (by omega)]
    exact (a6 _ _ (by omega)).trans ((a5 _ _ (by omega)).trans ((a4 _ _ (by omega)).trans ((a3 _ _ (by omega)).trans ((a2 _ _ (by omega)).trans ((a1 _ _ (by omega)).trans (a0 _ _ (by omega)))))))
theorem give_R {q nn a : Nat} (hq : 131 ≤ q) (hn : a + 104 ≤ nn) (hm : nn ≤ 1000) (τ : Mem) : ∃ τ', fX10_handsAll q nn τ (nI a) 0 = some τ' ∧ (∀ i, i < 10 → τ' 125 i = τ q (a + i) ∧ τ' 126 i = τ q (a + 10 + i)) ∧ (∀ i, i < 20 → τ' 127 i = τ q (a + 20 + i) ∧ τ' 128 i = τ q (a + 40 + i) ∧ τ' 129 i = τ q (a + 60 + i) ∧ τ' 130 i = τ q (a + 80 + i)) ∧ τ' 124 7 = τ q (a + 100) ∧ τ' 124 8 = τ q (a + 101) ∧ Ag (fun c i => 125 ≤ c ∧ c < 131 ∨ c = 124 ∧ i = 7 ∨ c = 124 ∧ i = 8 ∨ c = 124 ∧ i = 29 ∨ c = 124 ∧ i = 31) τ τ' := by
  have q4 : q ≠ 124 := by omega
  have q4' : 124 ≠ q := by omega
  generalize hs0 : mst (mst τ 124 31 0) 124 29 (nI a) = s0
  have a0 : Ag (fun c i => c = 124 ∧ i = 29 ∨ c = 124 ∧ i = 31) τ s0 := by
    rw [← hs0]
    exact ag_2 (ag_mst _ _ (W := fun c i => c = 124 ∧ i = 31) ⟨rfl, rfl⟩) (fun _ _ h => Or.inr h) (ag_mst _ _ (W := fun c i => c = 124 ∧ i = 29) ⟨rfl, rfl⟩) (fun _ _ h => Or.inl h)
  have k0 : s0 124 31 = 0 := by rw [← hs0, mst_at, upd_ne _ _ (by decide), mst_at, upd_at]
  have c0 : s0 124 29 = nI a := by rw [← hs0, mst_at, upd_at]
  obtain ⟨s1, e1, c1, v1, a1⟩ := hbk_R (q1 := 125) (nn1 := 10) (q2 := q) (nn2 := nn) (a := a) (by omega) (by decide) q4 (by omega) hm k0 c0
  have k1 : s1 124 31 = 0 := (a1 _ _ (by omega)).trans k0
  obtain ⟨s2, e2, c2, v2, a2⟩ := hbk_R (q1 := 126) (nn1 := 10) (q2 := q) (nn2 := nn) (a := a + 10) (by omega) (by decide) q4 (by omega) hm k1 c1
  have k2 : s2 124 31 = 0 := (a2 _ _ (by omega)).trans k1
  obtain ⟨s3, e3, c3, v3, a3⟩ := hbk_R (q1 := 127) (nn1 := 20) (q2 := q) (nn2 := nn) (a := a + 10 + 10) (by omega) (by decide) q4 (by omega) hm k2 c2
  have k3 : s3 124 31 = 0 := (a3 _ _ (by omega)).trans k2
  obtain ⟨s4, e4, c4, v4, a4⟩ := hbk_R (q1 := 128) (nn1 := 20) (q2 := q) (nn2 := nn) (a := a + 10 + 10 + 20) (by omega) (by decide) q4 (by omega) hm k3 c3
  have k4 : s4 124 31 = 0 := (a4 _ _ (by omega)).trans k3
  obtain ⟨s5, e5, c5, v5, a5⟩ := hbk_R (q1 := 129) (nn1 := 20) (q2 := q) (nn2 := nn) (a := a + 10 + 10 + 20 + 20) (by omega) (by decide) q4 (by omega) hm k4 c4
  have k5 : s5 124 31 = 0 := (a5 _ _ (by omega)).trans k4
  obtain ⟨s6, e6, c6, v6, a6⟩ := hbk_R (q1 := 130) (nn1 := 20) (q2 := q) (nn2 := nn) (a := a + 10 + 10 + 20 + 20 + 20) (by omega) (by decide) q4 (by omega) hm k5 c5
  have g0 : ∀ i, s0 q i = τ q i := fun i => a0 _ _ (by omega)
  have g1 : ∀ i, s1 q i = τ q i := fun i => (a1 _ _ (by omega)).trans (g0 i)
  have g2 : ∀ i, s2 q i = τ q i := fun i => (a2 _ _ (by omega)).trans (g1 i)
  have g3 : ∀ i, s3 q i = τ q i := fun i => (a3 _ _ (by omega)).trans (g2 i)
  have g4 : ∀ i, s4 q i = τ q i := fun i => (a4 _ _ (by omega)).trans (g3 i)
  have g5 : ∀ i, s5 q i = τ q i := fun i => (a5 _ _ (by omega)).trans (g4 i)
  have g6 : ∀ i, s6 q i = τ q i := fun i => (a6 _ _ (by omega)).trans (g5 i)
  have c6' : s6 124 29 = nI (a + 100) := c6
  refine ⟨mst (mst s6 124 7 (τ q (a + 100))) 124 8 (τ q (a + 101)), ?_, ?_, ?_, ?_, ?_, ?_⟩
  · unfold fX10_handsAll ckz
    rw [if_pos (Or.inl rfl)]
    simp only [lt]
    rw [hs0, e1, bv_some, e2, bv_some, e3, bv_some, e4, bv_some, e5, bv_some, e6, bv_some, if_pos trivial, c6', ck_i (by omega) (by omega), cl_i (by omega), g6, mst_at, upd_ne _ _ (by decide), c6', nI_s, ck_i (by omega) (by omega), cl_i (by omega), mst_ne _ _ _ q4, g6]
  · intro i hi
    rw [mst_ne _ _ _ (by decide), mst_ne _ _ _ (by decide), mst_ne _ _ _ (by decide), mst_ne _ _ _ (by decide)]
    exact ⟨(a6 _ _ (by omega)).trans ((a5 _ _ (by omega)).trans ((a4 _ _ (by omega)).trans ((a3 _ _ (by omega)).trans ((a2 _ _ (by omega)).trans ((v1 i hi).trans (g0 _)))))), (a6 _ _ (by omega)).trans ((a5 _ _ (by omega)).trans ((a4 _ _ (by omega)).trans ((a3 _ _ (by omega)).trans ((v2 i hi).trans (g1 _)))))⟩
  · intro i hi
    rw [mst_ne _ _ _ (by decide), mst_ne _ _ _ (by decide), mst_ne _ _ _ (by decide), mst_ne _ _ _ (by decide), mst_ne _ _ _ (by decide), mst_ne _ _ _ (by decide), mst_ne _ _ _ (by decide), mst_ne _ _ _ (by decide)]
    exact ⟨(a6 _ _ (by omega)).trans ((a5 _ _ (by omega)).trans ((a4 _ _ (by omega)).trans ((v3 i hi).trans (g2 _)))), (a6 _ _ (by omega)).trans ((a5 _ _ (by omega)).trans ((v4 i hi).trans (g3 _))), (a6 _ _ (by omega)).trans ((v5 i hi).trans (g4 _)), (v6 i hi).trans (g5 _)⟩
  · rw [mst_at, upd_ne _ _ (by decide), mst_at, upd_at]
  · rw [mst_at, upd_at]
  · refine ag_2 (W := fun c i => c = 124 ∧ i = 29 ∨ c = 124 ∧ i = 31 ∨ 125 ≤ c ∧ c < 131) (σ' := s6) (fun c i hc => (a6 _ _ (by omega)).trans ((a5 _ _ (by omega)).trans ((a4 _ _ (by omega)).trans ((a3 _ _ (by omega)).trans ((a2 _ _ (by omega)).trans ((a1 _ _ (by omega)).trans (a0 _ _ (by omega)))))))) (fun _ _ _ => by omega) (ag_2 (ag_mst _ _ (W := fun c i => c = 124 ∧ i = 7) ⟨rfl, rfl⟩) (fun _ _ h => Or.inl h) (ag_mst _ _ (W := fun c i => c = 124 ∧ i = 8) ⟨rfl, rfl⟩) (fun _ _ h => Or.inr h)) (fun _ _ _ => by omega)
