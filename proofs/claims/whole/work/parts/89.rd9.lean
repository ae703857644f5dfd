/-! PURE, 49: read -/
abbrev WxR : Nat → Nat → Prop := fun c i => c = 0 ∧ i = 9 ∨ c = 116 ∨ 118 ≤ c ∧ c < 122
abbrev WmR : Nat → Nat → Prop := fun c i => c = 124 ∧ i = 0 ∨ c = 124 ∧ i = 7 ∨ c = 124 ∧ i = 8 ∨ c = 124 ∧ i = 29 ∨ c = 124 ∧ i = 31 ∨ c = 124 ∧ 52 ≤ i ∧ i < 56 ∨ 125 ≤ c ∧ c < 131 ∨ c = 137 ∨ c = 138 ∨ 149 ≤ c ∧ c < 154
set_option maxHeartbeats 8000000 in
theorem S_read : Sim wL_read fX10_read := by
  intro B σ τ hB h
  obtain ⟨p, n, k, bs, U, it, h⟩ := h
  obtain ⟨h0, h1, h2, h3, h4, h5, h6, h7, h8, h9, hA, hC⟩ := id h
  obtain ⟨t, ht, x1, m1, ch, kE, kE2⟩ := hA
  have hx : ∀ j, j < t → (σ 117 j).toNatClampNeg ≤ 126 ∧ σ 117 j = nI (σ 117 j).toNatClampNeg := fun j hj => by
    obtain ⟨a, -, a2, e1, -⟩ := ch j hj
    rw [e1, cl_i (by omega)]
    exact ⟨a2, rfl⟩
  have hm : ∀ j, j < t → (σ 117 j).toNatClampNeg ≤ 126 ∧ τ 148 j = nI (σ 117 j).toNatClampNeg := fun j hj => by
    obtain ⟨a, -, a2, e1, e2⟩ := ch j hj
    rw [e1, cl_i (by omega)]
    exact ⟨a2, e2⟩
  obtain ⟨ok, a', e', σ1, τ1, r1, r2, r3, r4, r5, r6, r7, r8⟩ := rd_R ht x1 m1 hx hm
  generalize hσ2 : mst σ1 116 1 0 = σ2
  generalize hτ2 : mst τ1 124 52 0 = τ2
  have b1 : Ag (fun c i => c = 116 ∧ i = 1) σ1 σ2 := by rw [← hσ2]; exact ag_mst _ _ ⟨rfl, rfl⟩
  have b2 : Ag (fun c i => c = 124 ∧ i = 52) τ1 τ2 := by rw [← hτ2]; exact ag_mst _ _ ⟨rfl, rfl⟩
  have c1 : Ag WxR σ σ2 := ag_2 r7 (fun _ _ h => by omega) b1 (fun _ _ h => by omega)
  have c2 : Ag WmR τ τ2 := ag_2 r8 (fun _ _ h => by omega) b2 (fun _ _ h => by omega)
  have x20 : σ2 116 1 = nI 0 := by rw [← hσ2, mst_at, upd_at]; rfl
  have m20 : τ2 124 52 = nI 0 := by rw [← hτ2, mst_at, upd_at]; rfl
  have hp2 : prb p n k σ2 τ2 := by
    have d2 : Ag cT τ τ1 := r8
    exact prb_tr h1 c1 (fun _ _ _ => by omega) (ag_2 (W2 := fun c i => c = 124 ∧ 52 ≤ i ∧ i < 55 ∨ 149 ≤ c ∧ c < 154) d2 (fun _ _ h => by omega) b2 (fun _ _ h => by omega)) (fun _ _ _ => by omega)
  cases ok with
  | false =>
    have x2 : σ2 116 2 = nI a' := (b1 _ _ (by omega)).trans r4
    have m2 : τ2 124 53 = nI a' := (b2 _ _ (by omega)).trans r5
    refine ⟨1, mst σ2 0 9 (nI a'), 0, mst (mst τ2 124 55 (nI a')) 124 0 1, ?_, ?_, R0_te h (W := WxR) (W' := fun c i => c = 124 ∧ i = 0 ∨ c = 124 ∧ 52 ≤ i ∧ i < 56 ∨ 149 ≤ c ∧ c < 154) (ag_2 c1 (fun _ _ h => h) (ag_mst (W := WxR) _ _ (Or.inl ⟨rfl, rfl⟩)) (fun _ _ h => h)) (fun _ _ _ _ => by omega) (ag_2 (ag_2 (ag_2 (W2 := fun c i => c = 124 ∧ i = 0 ∨ c = 124 ∧ 52 ≤ i ∧ i < 56 ∨ 149 ≤ c ∧ c < 154) r8 (fun _ _ h => by omega) b2 (fun _ _ h => by omega)) (fun _ _ h => h) (ag_mst (W := fun c i => c = 124 ∧ i = 55) _ _ ⟨rfl, rfl⟩) (fun _ _ h => by omega)) (fun _ _ h => h) (ag_mst (W := fun c i => c = 124 ∧ i = 0) _ _ ⟨rfl, rfl⟩) (fun _ _ h => Or.inl h)) (fun _ _ _ _ _ => by omega) ⟨0, by omega, ?_, ?_, fun j hj => absurd hj (by omega), ?_, Or.inr ⟨a', by omega, ?_⟩⟩, m00 _ _, fun hh => absurd hh (by decide)⟩
    · unfold wL_read fX9_read
      rw [r1, bd_some, lt_e2, hσ2, if_pos (show b01 false = 0 from rfl), x2, lt_e2, bx_inr, if_pos rfl]
    · unfold fX10_read
      rw [r2, bd_some, lt_e2, hτ2, if_pos (show b01 false = 0 from rfl), m2, lt_e2, m_fails, bd_some]
    · rw [mst_ne _ _ _ (by decide)]; exact x20
    · rw [m0n _ _ (by decide), mst_at, upd_ne _ _ (by decide)]; exact m20
    · rw [m0n _ _ (by decide), mst_at, upd_at, mst_at, upd_at]
    · rw [mst_at, upd_at]
  | true =>
    obtain ⟨he, x7, m7, hE⟩ := r6 rfl
    have x7 : σ2 116 7 = nI e' := (b1 _ _ (by omega)).trans x7
    have m7 : τ2 124 54 = nI e' := (b2 _ _ (by omega)).trans m7
    have hi2 : hiR σ2 τ2 := hiR_tr h8 c1 (fun _ _ _ => by omega) c2 (fun _ _ _ => by omega)
    obtain ⟨σ3, τr, e3, er, hp3, hir, a3, wr⟩ := rem_R hp2 hi2
    clear er hir wr
    obtain ⟨τ3, k1, k2, k3, k4, k5, -, k7⟩ := keep_R (q := 137) (nn := 104) (a := 0) (by omega) (by omega) (by omega) τ2
    have hm3 : isM τ3 p n k := isM_ag hp2.2.2 k7 (fun _ _ _ => by omega)
    have hH3 : isH 137 0 τ3 p n k := isH_of hp2.1 hp2.2.2 k2 k3 k4 k5
    have c3 : Ag WmR τ τ3 := ag_2 c2 (fun _ _ h => h) k7 (fun _ _ h => by omega)
    have hF : ∀ i, i < e' → ∃ r, xE i σ2 r ∧ xE i σ3 r ∧ mE i τ3 r := fun i hi => by
      obtain ⟨r, y1, y2⟩ := hE i hi
      have z1 := xE_ag y1 b1 (fun _ _ _ => by omega)
      exact ⟨r, z1, xE_ag z1 a3 (fun _ _ _ => by omega), mE_ag (mE_ag y2 b2 (fun _ _ _ => by omega)) k7 (fun _ _ _ => by omega)⟩
    have hn := hp2.1.1
    have hk := hp2.1.2.1
    have fe : fX2_fits σ2 = fX2_fits_L13 FU σ2 (nI n) (nI k) (nI 0) := by
      unfold fX2_fits
      rw [hp2.2.1.1, hp2.2.1.2.1]
      rfl
    rcases fc_loop he x7 e' 0 (by omega) FU (FU_lt (by omega)) FU (FU_lt (by omega)) FU (FU_lt (by omega)) n k p σ3 τ3 ⟨hp2.1, hp3.2.1, hm3⟩ ((a3 _ _ (by omega)).trans x7) ((k7 _ _ (by omega)).trans m7) hF with ⟨f1, σ4, τ4, p', n', k', f2, f3, hp4⟩ | ⟨f1, τ4, f3⟩
    · have f2 : fX2_addTo σ3 = some σ4 := f2
      have f3 : fX10_comesAll τ3 = some (1, τ4) := f3
      have a4 := fq_X2_addTo f2
      have w4 := fq_X10_comesAll f3
      obtain ⟨τ5, l1, l2, l3, l4, l5, -, l7⟩ := keep_R (q := 138) (nn := 104) (a := 0) (by omega) (by omega) (by omega) τ4
      have hH5 : isH 138 0 τ5 p' n' k' := isH_of hp4.1 hp4.2.2 l2 l3 l4 l5
      have hH5' : isH 137 0 τ5 p n k := isH_tr hn hk hH3 (fun i _ => (l7 _ _ (by omega)).trans (w4 _ _ (by omega)))
      obtain ⟨τ6, o1, o2, o3, o4, o5, o6⟩ := give_R (q := 137) (nn := 104) (a := 0) (by omega) (by omega) (by omega) τ5
      have hm6 : isM τ6 p n k := isM_of hp2.1 hH5' o2 o3 o4 o5
      have c6 : Ag WmR τ τ6 := ag_2 (ag_2 (ag_2 c3 (fun _ _ h => h) w4 (fun _ _ h => by omega)) (fun _ _ h => h) l7 (fun _ _ h => by omega)) (fun _ _ h => h) o6 (fun _ _ h => by omega)
      obtain ⟨σ3', τ7, e3', e7, -, hh7, -, w7⟩ := rem_R (σ := σ2) (τ := τ6) ⟨hp2.1, hp2.2.1, hm6⟩ (hiR_tr h8 c1 (fun _ _ _ => by omega) c6 (fun _ _ _ => by omega))
      rw [e3] at e3'
      cases e3'
      have hH7 : isH 138 0 τ7 p' n' k' := isH_tr hp4.1.1 hp4.1.2.1 hH5 (fun i _ => (w7 _ _ (by omega)).trans (o6 _ _ (by omega)))
      obtain ⟨τ8, u1, u2, u3, u4, u5, u6⟩ := give_R (q := 138) (nn := 104) (a := 0) (by omega) (by omega) (by omega) τ7
      have hm8 : isM τ8 p' n' k' := isM_of hp4.1 hH7 u2 u3 u4 u5
      have hm9 : isM (mst τ8 124 0 0) p' n' k' := isM_ag hm8 (a_m0 τ8 0) (fun _ _ _ => by omega)
      have c9 : Ag (fun c i => WmR c i ∨ c = 135 ∨ c = 124 ∧ i = 28) τ (mst τ8 124 0 0) := ag_2 (ag_2 (ag_2 c6 (fun _ _ h => Or.inl h) w7 (fun _ _ h => by omega)) (fun _ _ h => h) u6 (fun _ _ h => by omega)) (fun _ _ h => h) (a_m0 τ8 0) (fun _ _ h => by omega)
      have c4 : Ag (fun c i => c = 0 ∧ i = 9 ∨ c = 116 ∨ 118 ≤ c ∧ c < 122 ∨ 17 ≤ c ∧ c < 82 ∨ 1 ≤ c ∧ c < 8) σ σ4 := ag_2 (ag_2 c1 (fun _ _ h => by omega) a3 (fun _ _ h => by omega)) (fun _ _ h => h) a4 (fun _ _ h => by omega)
      obtain ⟨o, oe, q1, q2, q3, q4⟩ := h7
      have x41 : σ4 116 1 = nI 0 := (a4 _ _ (by omega)).trans ((a3 _ _ (by omega)).trans x20)
      have x47 : σ4 116 7 = nI e' := (a4 _ _ (by omega)).trans ((a3 _ _ (by omega)).trans x7)
      have x49 : σ4 0 9 = σ 0 9 := (a4 _ _ (by omega)).trans ((a3 _ _ (by omega)).trans ((b1 _ _ (by omega)).trans (r7 _ _ (by omega))))
      have d9 : ∀ i, i = 52 ∨ i = 54 → (mst τ8 124 0 0) 124 i = τ2 124 i := fun i hi => by
        rw [m0n _ _ (by omega)]
        exact (u6 _ _ (by omega)).trans ((w7 _ _ (by omega)).trans ((o6 _ _ (by omega)).trans ((l7 _ _ (by omega)).trans ((w4 _ _ (by omega)).trans (k7 _ _ (by omega))))))
      have d55 : (mst τ8 124 0 0) 124 55 = τ 124 55 := by
        rw [m0n _ _ (by omega)]
        exact (u6 _ _ (by omega)).trans ((w7 _ _ (by omega)).trans ((o6 _ _ (by omega)).trans ((l7 _ _ (by omega)).trans ((w4 _ _ (by omega)).trans ((k7 _ _ (by omega)).trans ((b2 _ _ (by omega)).trans (r8 _ _ (by omega))))))))
      have hT : teR σ4 (mst τ8 124 0 0) := ⟨0, by omega, x41, (d9 52 (Or.inl rfl)).trans m20, fun j hj => absurd hj (by omega), x49.trans (kE.trans d55.symm), by rw [x49]; exact kE2⟩
      have hh9 : hiR σ4 (mst τ8 124 0 0) := hiR_tr hh7 a4 (fun _ _ _ => by omega) (ag_2 (W2 := fun c i => c = 124 ∧ i = 0 ∨ c = 124 ∧ i = 7 ∨ c = 124 ∧ i = 8 ∨ c = 124 ∧ i = 29 ∨ c = 124 ∧ i = 31 ∨ 125 ≤ c ∧ c < 131) u6 (fun _ _ h => by omega) (a_m0 τ8 0) (fun _ _ h => Or.inl h)) (fun _ _ _ => by omega)
      obtain ⟨σ5, τ10, s1, s2, s3⟩ := begin_R (B := B + 30) (p := p') (n := n') (k := k') (σ := σ4) (τ := mst τ8 124 0 0) ⟨hp4.1, hp4.2.1, hm9⟩ (stt_tr h5 c4 (fun _ _ _ => by omega) c9 (fun _ _ _ => by omega)) ⟨o, q1, (c4 _ _ (by omega)).trans q3⟩ hh9 (saR_tr h9 c4 (fun _ _ _ => by omega) c9 (fun _ _ _ => by omega)) hT
      have a5 := fq_X9_beginSearch s1
      have w10 := fq_X10_begins s2
      refine ⟨0, mst σ5 155 0 (nI e'), nI e', τ10, ?_, ?_, RR_155 s3 _, ?_, fun _ => by rw [mst_at, upd_at]⟩
      · unfold wL_read fX9_read
        rw [r1, bd_some, lt_e2, hσ2, if_neg (show ¬ b01 true = 0 by decide), fe, f1, bd_some, if_neg (show ¬ (1 : Int32) = 0 by decide), e3, bv_some, f2, bv_some, s1, bv_some, bx_inl, a5 116 7 (by omega), x47]
      · unfold fX10_read
        rw [r2, bd_some, lt_e2, hτ2, if_neg (show ¬ b01 true = 0 by decide), show fX10_handsAll 137 104 τ2 0 1 = _ from k1, bv_some, f3, bd_some, if_neg (show ¬ (1 : Int32) = 0 by decide), show fX10_handsAll 138 104 τ4 0 1 = _ from l1, bv_some, show fX10_handsAll 137 104 τ5 0 0 = _ from o1, bv_some, e7, bv_some, show fX10_handsAll 138 104 τ7 0 0 = _ from u1, bv_some, lt_e2, s2, bv_some, w10 124 54 (by omega), d9 54 (Or.inr rfl), m7]
      · exact (w10 _ _ (by omega)).trans (m00 _ _)
    · have f3 : fX10_comesAll τ3 = some (0, τ4) := f3
      have w4 := fq_X10_comesAll f3
      have hH4 : isH 137 0 τ4 p n k := isH_tr hn hk hH3 (fun i _ => w4 _ _ (by omega))
      obtain ⟨τ5, o1, o2, o3, o4, o5, o6⟩ := give_R (q := 137) (nn := 104) (a := 0) (by omega) (by omega) (by omega) τ4
      have hm5 : isM τ5 p n k := isM_of hp2.1 hH4 o2 o3 o4 o5
      have hm6 : isM (mst τ5 124 0 2) p n k := isM_ag hm5 (a_m0 τ5 2) (fun _ _ _ => by omega)
      have c6 : Ag WmR τ (mst τ5 124 0 2) := ag_2 (ag_2 (ag_2 c3 (fun _ _ h => h) w4 (fun _ _ h => by omega)) (fun _ _ h => h) o6 (fun _ _ h => by omega)) (fun _ _ h => h) (a_m0 τ5 2) (fun _ _ h => by omega)
      have d52 : (mst τ5 124 0 2) 124 52 = nI 0 := by
        rw [m0n _ _ (by omega)]
        exact (o6 _ _ (by omega)).trans ((w4 _ _ (by omega)).trans ((k7 _ _ (by omega)).trans m20))
      have d55 : (mst τ5 124 0 2) 124 55 = τ 124 55 := by
        rw [m0n _ _ (by omega)]
        exact (o6 _ _ (by omega)).trans ((w4 _ _ (by omega)).trans ((k7 _ _ (by omega)).trans ((b2 _ _ (by omega)).trans (r8 _ _ (by omega)))))
      have x29 : σ2 0 9 = σ 0 9 := (b1 _ _ (by omega)).trans (r7 _ _ (by omega))
      have hT : teR σ2 (mst τ5 124 0 2) := ⟨0, by omega, x20, d52, fun j hj => absurd hj (by omega), x29.trans (kE.trans d55.symm), by rw [x29]; exact kE2⟩
      refine ⟨2, σ2, 0, mst τ5 124 0 2, ?_, ?_, ⟨p, n, k, bs, U, it, by omega, ⟨hp2.1, hp2.2.1, hm6⟩, bst_tr h2 c1 (fun _ _ _ => by omega) c6 (fun _ _ _ => by omega), (c6 _ _ (by omega)).trans h3, cou_tr h4 c1 (fun _ _ _ => by omega) c6 (fun _ _ _ => by omega), stt_tr h5 c1 (fun _ _ _ => by omega) c6 (fun _ _ _ => by omega), ban_tr h6 c1 (fun _ _ _ => by omega) c6 (fun _ _ _ => by omega), lgR_tr h7 c1 (fun _ _ _ => by omega) c6 (fun _ _ _ => by omega), hiR_tr h8 c1 (fun _ _ _ => by omega) c6 (fun _ _ _ => by omega), saR_tr h9 c1 (fun _ _ _ => by omega) c6 (fun _ _ _ => by omega), hT, suR_tr hC c1 (fun _ _ _ => by omega)⟩, m00 _ _, fun hh => absurd hh (by decide)⟩
      · unfold wL_read fX9_read
        rw [r1, bd_some, lt_e2, hσ2, if_neg (show ¬ b01 true = 0 by decide), fe, f1, bd_some, if_pos rfl, bx_inr, if_neg (by decide), if_pos rfl]
      · unfold fX10_read
        rw [r2, bd_some, lt_e2, hτ2, if_neg (show ¬ b01 true = 0 by decide), show fX10_handsAll 137 104 τ2 0 1 = _ from k1, bv_some, f3, bd_some, if_pos rfl, show fX10_handsAll 137 104 τ4 0 0 = _ from o1, bv_some, m_fails, bd_some]
