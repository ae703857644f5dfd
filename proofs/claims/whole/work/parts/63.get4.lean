/-! PURE, 23: settings, text, log, forbidden values -/
theorem R0_stt {B : Nat} {p : Nat → Nat → Int32} {n k : Nat} {bs : Nat → Int32} {U : Nat → Nat → Nat} {it : Nat} {σ τ : Mem} (h : R0 B p n k bs U it σ τ) {j : Nat} (hj : j < 4) (x : Int32) (ht : j = 1 → ∃ t : Nat, t ≤ 20 ∧ x = nI t) : RR (B + 30) (mst σ 83 j x) (mst (mst τ 124 0 0) 124 (20 + j) x) := by
  obtain ⟨h0, h1, h2, h3, h4, h5, h6, h7, h8, h9, hA, hB⟩ := h
  have a : Ag (fun c i => c = 83 ∧ i < 4) σ (mst σ 83 j x) := ag_mst _ _ ⟨rfl, hj⟩
  have a' : Ag (fun c i => c = 124 ∧ i = 0 ∨ c = 124 ∧ 20 ≤ i ∧ i < 24) τ (mst (mst τ 124 0 0) 124 (20 + j) x) := ag_2 (a_m0 τ 0) (fun _ _ h => Or.inl h) (ag_mst (W := fun c i => c = 124 ∧ 20 ≤ i ∧ i < 24) _ _ ⟨rfl, by omega, by omega⟩) (fun _ _ h => Or.inr h)
  refine ⟨p, n, k, bs, U, it, by omega, prb_tr h1 a (fun _ _ _ => by omega) a' (fun _ _ _ => by omega), bst_tr h2 a (fun _ _ _ => by omega) a' (fun _ _ _ => by omega), (a' _ _ (by omega)).trans h3, cou_tr h4 a (fun _ _ _ => by omega) a' (fun _ _ _ => by omega), ⟨fun i hi => ?_, ?_⟩, ban_tr h6 a (fun _ _ _ => by omega) a' (fun _ _ _ => by omega), lgR_tr h7 a (fun _ _ _ => by omega) a' (fun _ _ _ => by omega), hiR_tr h8 a (fun _ _ _ => by omega) a' (fun _ _ _ => by omega), saR_tr h9 a (fun _ _ _ => by omega) a' (fun _ _ _ => by omega), teR_tr hA a (fun _ _ _ => by omega) a' (fun _ _ _ => by omega), suR_tr hB a (fun _ _ _ => by omega)⟩
  · rw [mst_at, mst_at]
    by_cases e : i = j
    · rw [e, upd_at, upd_at]
    · rw [upd_ne _ _ e, upd_ne _ _ (by omega), m0n _ _ (by omega)]
      exact h5.1 i hi
  · by_cases e : j = 1
    · subst e
      obtain ⟨t, ht1, ht2⟩ := ht rfl
      exact ⟨t, ht1, by rw [mst_at, upd_at]; exact ht2⟩
    · obtain ⟨t, ht1, ht2⟩ := h5.2
      exact ⟨t, ht1, by rw [mst_at, upd_ne _ _ (fun h => e h.symm)]; exact ht2⟩
theorem S_setNeighborhood (a : Int32) : Sim (fun σ => wL_setNeighborhood σ a) (fun τ => fX10_setNeighborhood τ a) := by
  intro B σ τ hB h
  dsimp only
  have h00 := h
  obtain ⟨p, n, k, bs, U, it, h⟩ := h
  by_cases ha : (0 : Int32) ≤ a ∧ a ≤ 15
  · exact ⟨0, _, _, _, x_setNeighborhood_ok σ ha.1 ha.2, m_setNeighborhood_ok τ ha.1 ha.2, RR_155 (R0_stt h (j := 0) (by omega) a (fun h => absurd h (by decide))) _, by rw [mst_at, upd_ne _ _ (by decide), m00], fun _ => by rw [mst_at, upd_at]; exact h.2.2.2.2.2.1.1 0 (by omega)⟩
  · exact q_no h00 1 (by decide) (x_setNeighborhood_no σ ha) (m_setNeighborhood_no τ ha)
theorem S_setTenure (a : Int32) : Sim (fun σ => wL_setTenure σ a) (fun τ => fX10_setTenure τ a) := by
  intro B σ τ hB h
  dsimp only
  have h00 := h
  obtain ⟨p, n, k, bs, U, it, h⟩ := h
  by_cases ha : (0 : Int32) ≤ a ∧ a ≤ 20
  · obtain ⟨t, -, ht, et⟩ := rngN (lo := 0) (hi := 20) (by omega) ha.1 ha.2 (by omega)
    exact ⟨0, _, _, _, x_setTenure_ok σ ha.1 ha.2, m_setTenure_ok τ ha.1 ha.2, RR_155 (R0_stt h (j := 1) (by omega) a (fun _ => ⟨t, ht, et⟩)) _, by rw [mst_at, upd_ne _ _ (by decide), m00], fun _ => by rw [mst_at, upd_at]; exact h.2.2.2.2.2.1.1 1 (by omega)⟩
  · exact q_no h00 1 (by decide) (x_setTenure_no σ ha) (m_setTenure_no τ ha)
theorem S_setPatience (a : Int32) : Sim (fun σ => wL_setPatience σ a) (fun τ => fX10_setPatience τ a) := by
  intro B σ τ hB h
  dsimp only
  have h00 := h
  obtain ⟨p, n, k, bs, U, it, h⟩ := h
  by_cases ha : (1 : Int32) ≤ a ∧ a ≤ 100
  · exact ⟨0, _, _, _, x_setPatience_ok σ ha.1 ha.2, m_setPatience_ok τ ha.1 ha.2, RR_155 (R0_stt h (j := 2) (by omega) a (fun h => absurd h (by decide))) _, by rw [mst_at, upd_ne _ _ (by decide), m00], fun _ => by rw [mst_at, upd_at]; exact h.2.2.2.2.2.1.1 2 (by omega)⟩
  · exact q_no h00 1 (by decide) (x_setPatience_no σ ha) (m_setPatience_no τ ha)
theorem le_max (a : Int32) : a ≤ (2147483647 : Int32) := by
  rw [Int32.le_iff_toInt_le, show (2147483647 : Int32).toInt = 2147483647 from by decide]
  have := a.toInt_lt
  omega
theorem S_setSeed (a : Int32) : Sim (fun σ => wL_setSeed σ a) (fun τ => fX10_setSeed τ a) := by
  intro B σ τ hB h
  dsimp only
  have h00 := h
  obtain ⟨p, n, k, bs, U, it, h⟩ := h
  by_cases ha : (0 : Int32) ≤ a
  · exact ⟨0, _, _, _, x_setSeed_ok σ ha (le_max a), m_setSeed_ok τ ha, RR_155 (R0_stt h (j := 3) (by omega) a (fun h => absurd h (by decide))) _, by rw [mst_at, upd_ne _ _ (by decide), m00], fun _ => by rw [mst_at, upd_at]; exact h.2.2.2.2.2.1.1 3 (by omega)⟩
  · exact q_no h00 1 (by decide) (x_setSeed_no σ (fun h => ha h.1)) (m_setSeed_no τ ha)
theorem char_i : ∀ s, s ≤ 126 → vp_nar .char (nI s) = nI s := by decide +kernel
theorem R0_te {B : Nat} {p : Nat → Nat → Int32} {n k : Nat} {bs : Nat → Int32} {U : Nat → Nat → Nat} {it : Nat} {σ τ σ' τ' : Mem} {W W' : Nat → Nat → Prop} (h : R0 B p n k bs U it σ τ) (a : Ag W σ σ') (s : ∀ c i, c < 124 → ¬ (c = 0 ∧ i = 9 ∨ c = 8 ∨ c = 86 ∨ c = 98 ∨ 100 ≤ c ∧ c < 104 ∨ c = 114 ∨ 116 ≤ c) → ¬ W c i) (a' : Ag W' τ τ') (s' : ∀ c i, 124 ≤ c → c < 155 → ¬ (c = 124 ∧ i = 0 ∨ c = 124 ∧ 39 ≤ i ∧ i < 46 ∨ c = 124 ∧ 52 ≤ i ∨ c = 131 ∨ 139 ≤ c) → ¬ W' c i) (ht : teR σ' τ') : RR (B + 30) σ' τ' := by
  obtain ⟨h0, h1, h2, h3, h4, h5, h6, h7, h8, h9, hA, hB⟩ := h
  exact ⟨p, n, k, bs, U, it, by omega, prb_tr h1 a (fun _ _ _ => s _ _ (by omega) (by omega)) a' (fun _ _ _ => s' _ _ (by omega) (by omega) (by omega)), bst_tr h2 a (fun _ _ _ => s _ _ (by omega) (by omega)) a' (fun _ _ _ => s' _ _ (by omega) (by omega) (by omega)), (a' _ _ (s' _ _ (by omega) (by omega) (by omega))).trans h3, cou_tr h4 a (fun _ _ _ => s _ _ (by omega) (by omega)) a' (fun _ _ _ => s' _ _ (by omega) (by omega) (by omega)), stt_tr h5 a (fun _ _ _ => s _ _ (by omega) (by omega)) a' (fun _ _ _ => s' _ _ (by omega) (by omega) (by omega)), ban_tr h6 a (fun _ _ _ => s _ _ (by omega) (by omega)) a' (fun _ _ _ => s' _ _ (by omega) (by omega) (by omega)), lgR_tr h7 a (fun _ _ _ => s _ _ (by omega) (by omega)) a' (fun _ _ _ => s' _ _ (by omega) (by omega) (by omega)), hiR_tr h8 a (fun _ _ _ => s _ _ (by omega) (by omega)) a' (fun _ _ _ => s' _ _ (by omega) (by omega) (by omega)), saR_tr h9 a (fun _ _ _ => s _ _ (by omega) (by omega)) a' (fun _ _ _ => s' _ _ (by omega) (by omega) (by omega)), ht, suR_tr hB a (fun _ _ _ => s _ _ (by omega) (by omega))⟩
theorem S_append (a : Int32) : Sim (fun σ => wL_append σ a) (fun τ => fX10_append τ a) := by
  intro B σ τ hB h
  dsimp only
  have h00 := h
  obtain ⟨p, n, k, bs, U, it, h⟩ := h
  obtain ⟨t, ht, t1, t2, t3, t4, t5⟩ := h.2.2.2.2.2.2.2.2.2.2.1
  by_cases ha : (32 : Int32) ≤ a ∧ a ≤ 126
  · by_cases c60 : t = 60
    · subst c60
      exact q_no h00 2 (by decide) (x_append_full σ ha.1 ha.2 t1) (m_append_full τ ha.1 ha.2 t2)
    · obtain ⟨s, hs1, hs2, rfl⟩ := rngN (lo := 32) (hi := 126) (by omega) ha.1 ha.2 (by omega)
      have ex := x_append_ok σ ha.1 ha.2 (show t < 60 by omega) t1
      have em := m_append_ok τ ha.1 ha.2 (show t < 60 by omega) t2
      rw [char_i s hs2] at ex
      have ax := fq_wL_append ex
      have am := fq_X10_append em
      refine ⟨0, _, _, _, ex, em, R0_te h ax (fun _ _ _ _ => by omega) am (fun _ _ _ _ _ => by omega) ⟨t + 1, by omega, ?_, ?_, fun j hj => ?_, (ax _ _ (by omega)).trans (t4.trans (am _ _ (by omega)).symm), ?_⟩, ?_, fun _ => by rw [mst_at, upd_at]⟩
      · rw [mst_ne _ _ _ (by decide), mst_at, upd_at]
      · rw [mst_at, upd_at]
      · rw [mst_ne _ _ _ (by decide), mst_ne _ _ _ (by decide), mst_at, mst_ne _ _ _ (by decide), mst_at, mst_ne _ _ _ (by decide)]
        by_cases e : j = t
        · rw [e, upd_at, upd_at]; exact ⟨s, hs1, hs2, rfl, rfl⟩
        · rw [upd_ne _ _ e, upd_ne _ _ e]; exact t3 j (by omega)
      · rw [ax 0 9 (by omega)]; exact t5
      · rw [mst_at, upd_ne _ _ (by decide), mst_ne _ _ _ (by decide), m00]
  · exact q_no h00 1 (by decide) (x_append_no σ ha) (m_append_no τ ha)
theorem S_errorPosition : Sim wL_errorPosition fX10_errorPosition := by
  intro B σ τ hB h
  have h00 := h
  obtain ⟨p, n, k, bs, U, it, h⟩ := h
  obtain ⟨t, ht, t1, t2, t3, t4, t5⟩ := h.2.2.2.2.2.2.2.2.2.2.1
  rcases t5 with t5 | ⟨a, ha, t5⟩
  · exact q_no h00 1 (by decide) (x_errorPosition_no σ t5) (m_errorPosition_no τ (by rw [← t4, t5]; decide))
  · refine q_ok h00 (nI a) (σ1 := σ) (ag_r (W := Wn)) (fun _ _ _ _ => by omega) (a_m0 τ 0) (fun _ _ _ _ _ => by omega) ?_ ?_ (m00 _ _)
    · rw [x_errorPosition_ok σ (by rw [t5]; intro hh; exact absurd (hh ▸ nI_pos' (n := a) (by omega) : (0 : Int32) ≤ -1) (by decide)), t5]
    · rw [m_errorPosition_ok τ (by rw [← t4, t5]; exact nI_pos' (by omega)), ← t4, t5]
theorem mod40_i : ∀ a, a < 81 → nI a - nI a / (40 : Int32) * (40 : Int32) = nI (a % 40) := by decide +kernel
theorem xpart {σ : Mem} {o j w : Nat} (ho : o < 40) (hj : j < 41) (hw : w < 7) (h1 : σ 104 1 = nI o) : fX6_partAt σ (nI j) (nI w) = some (σ (106 + w) ((o + j) % 40), σ) := by
  unfold fX6_partAt
  rw [h1, nI_add, mod40_i _ (by omega), ck_i hw (by omega), ck_i (Nat.mod_lt _ (by omega)) (by omega), cl_i (by omega), cl_i (by omega), Nat.one_mul]
theorem S_log (a b : Int32) : Sim (fun σ => wL_log σ a b) (fun τ => fX10_log τ a b) := by
  intro B σ τ hB h
  dsimp only
  have h00 := h
  obtain ⟨p, n, k, bs, U, it, h⟩ := h
  obtain ⟨o, e, ho, he, y1, y2, y3, y4⟩ := h.2.2.2.2.2.2.2.1
  rcases inN e a with ⟨j, hj, rfl⟩ | ha
  · have hxi : ∀ K : Option ((Int32 ⊕ String) × Mem), (if nI j < 0 then fX9_log_L18 σ else if nI j < σ 104 2 then K else fX9_log_L18 σ) = K := fun K => by
      rw [if_neg (nI_pos (by omega)), y2, if_pos ((lt_i (by omega) (by omega)).2 hj)]
    have hmi : fX10_isBetween τ (nI j) 0 (nI e - 1) = some (1, τ) := by
      rw [nI_d1 (by omega)]
      exact mrange_ok τ (nI_pos' (by omega)) ((le_i (by omega) (by omega)).2 (by omega))
    rcases wh_range τ (b := b) (m := 5) (by omega) with ⟨w, hw, rfl, hin⟩ | ⟨hb, hin⟩
    · have hin' : fX10_isBetween τ (nI w) 0 5 = some (1, τ) := hin
      have hxw : fX9_checkRange σ (nI w) 0 5 = some (.inl (), σ) := xrange_ok σ (nI_pos' (by omega)) ((le_i (a := w) (b := 5) (by omega) (by omega)).2 hw)
      refine q_ok h00 (τ 134 (7 * j + w)) (σ1 := σ) (ag_r (W := Wn)) (fun _ _ _ _ => by omega) (a_m0 τ 0) (fun _ _ _ _ _ => by omega) ?_ ?_ (m00 _ _)
      · unfold wL_log fX9_log
        rw [hxi, hxw, bx_inl, xpart ho (by omega) (by omega) y1, bd_some, bx_inl, (y4 j hj).1 w (by omega)]
      · unfold fX10_log
        simp only [lt]
        rw [y3, hmi, bd_some, if_neg (by decide), hin', bd_some, if_neg (by decide), show (7 : Int32) * nI j = nI (7 * j) from nI_mul 7 j, nI_add, ck_i (by omega) (by omega), cl_i (by omega), mst_ne _ _ _ (by decide : (134 : Nat) ≠ 124)]
    · have hin' : fX10_isBetween τ b 0 5 = some (0, τ) := hin
      have hxw : fX9_checkRange σ b 0 5 = some (.inr "java/lang/IllegalArgumentException", σ) := xrange_no σ (fun hh => by
        obtain ⟨w, -, hw, rfl⟩ := rngN (lo := 0) (hi := 5) (by omega) hh.1 hh.2 (by omega)
        exact hb w hw rfl)
      refine q_no h00 2 (by decide) ?_ ?_
      · unfold wL_log fX9_log
        rw [hxi, hxw, bx_inr, bx_inr, if_neg (by decide), if_pos rfl]
      · unfold fX10_log
        rw [y3, hmi, bd_some, if_neg (by decide), hin', bd_some, if_pos rfl, m_fails, bd_some]
  · refine q_no h00 1 (by decide) ?_ ?_
    · unfold wL_log fX9_log fX9_log_L18
      by_cases c : a < 0
      · rw [if_pos c, bx_inr, if_pos rfl]
      · obtain ⟨j, hj, rfl⟩ := nI_of c
        rw [if_neg c, y2, if_neg (fun hh => ha j ((nI_ltI hj (by omega)).1 hh) rfl), bx_inr, if_pos rfl]
    · unfold fX10_log
      rw [y3, mrange_no τ (fun hh => by
        by_cases e0 : e = 0
        · subst e0
          have := Int32.le_trans hh.1 hh.2
          exact absurd this (by decide)
        · rw [nI_d1 (by omega)] at hh
          obtain ⟨w, -, hw, rfl⟩ := rngN (lo := 0) (hi := e - 1) (by omega) hh.1 hh.2 (by omega)
          exact ha w (by omega) rfl), bd_some, if_pos rfl, m_fails, bd_some]
theorem ban_lt {u i : Nat} (hu : u ≤ 100000) (hi : i ≤ 100000) : nI u - 1 < nI i ↔ u ≤ i := by
  by_cases h : u = 0
  · subst h
    refine ⟨fun _ => Nat.zero_le _, fun _ => ?_⟩
    rw [Int32.lt_iff_toInt_lt, nI_toInt (by omega), show (nI 0 - 1).toInt = -1 from by decide]
    omega
  · rw [nI_d1 (by omega), lt_i (by omega) (by omega)]
    omega
theorem S_isForbidden (a b : Int32) : Sim (fun σ => wL_isForbidden σ a b) (fun τ => fX10_isForbidden τ a b) := by
  intro B σ τ hB h
  dsimp only
  have h00 := h
  obtain ⟨p, n, k, bs, U, it, h⟩ := h
  have hr := h.2.1
  have hn := hr.1.1
  have hit := h.1
  obtain ⟨i1, i2, i3⟩ := h.2.2.2.2.2.2.1
  rcases inN n a with ⟨v, hv, rfl⟩ | ha
  · obtain ⟨s, w0, hs1, hs2, hw0, hz4, hz5⟩ := hr.1.2.2.1 v hv
    have x2 : σ 2 v = nI s := ((hr.2.1.2.2.1 v hv).1).trans hz4
    have m2 : τ 125 v = nI s := (hr.2.2.1.2.2.1 v hv).trans hz4
    rcases in_iff (by omega) hs2 m2 b with ⟨w, hw, rfl, hin⟩ | ⟨hb, hin⟩
    · obtain ⟨u1, u2, u3⟩ := i3 v w (by omega) (by omega)
      refine q_ok h00 (if U v w ≤ it then 0 else 1) (σ1 := σ) (ag_r (W := Wn)) (fun _ _ _ _ => by omega) (a_m0 τ 0) (fun _ _ _ _ _ => by omega) ?_ ?_ (m00 _ _)
      · unfold wL_isForbidden fX9_isForbidden fX8_isBanned
        rw [xvar_ok hn hr.2.1.1 hv, bx_inl, ck_i (by omega) (by omega), cl_i (by omega), x2, range0_ok (by omega) (by omega) hw, bx_inl, ck_i (by omega) (by omega), ck_i (by omega) (by omega), cl_i (by omega), Nat.one_mul, u2, i1]
        by_cases c : U v w ≤ it
        · rw [if_pos ((le_i (by omega) (by omega)).2 c), bd_some]
          unfold ckz
          rw [if_pos (Or.inl rfl), bx_inl, if_pos c]
          rfl
        · rw [if_neg (fun hh => c ((le_i (by omega) (by omega)).1 hh)), bd_some]
          unfold ckz
          rw [if_pos (Or.inr rfl), bx_inl, if_neg c]
          rfl
      · unfold fX10_isForbidden fX10_isForbidden_L27 fX10_isForbiddenNow fX10_isForbidden_L50
        simp only [lt]
        rw [mvar_ok hn hr.2.2.1.1 hv, bd_some, if_neg (by decide), hin, bd_some, if_neg (by decide), m00, if_pos rfl, show (8 : Int32) * nI v = nI (8 * v) from nI_mul 8 v, nI_add, ck_i (by omega) (by omega), cl_i (by omega), mst_ne _ _ _ (by decide : (133 : Nat) ≠ 124), u3, m0n _ _ (by decide), i2]
        by_cases c : U v w ≤ it
        · rw [if_pos ((ban_lt (by omega) (by omega)).2 c), bd_some, if_pos rfl, if_pos c]
        · rw [if_neg (fun hh => c ((ban_lt (by omega) (by omega)).1 hh)), bd_some, if_neg (by decide), if_neg c]
    · refine q_no h00 2 (by decide) ?_ ?_
      · unfold wL_isForbidden fX9_isForbidden
        rw [xvar_ok hn hr.2.1.1 hv, bx_inl, ck_i (by omega) (by omega), cl_i (by omega), x2, range0_no (by omega) (by omega) hb, bx_inr, bx_inr, if_neg (by decide), if_pos rfl]
      · unfold fX10_isForbidden fX10_isForbidden_L27 fX10_isForbidden_L50
        simp only [lt]
        rw [mvar_ok hn hr.2.2.1.1 hv, bd_some, if_neg (by decide), hin, bd_some, if_pos rfl, m00, if_neg (by decide)]
  · refine q_no h00 1 (by decide) ?_ ?_
    · unfold wL_isForbidden fX9_isForbidden
      rw [xvar_no hn hr.2.1.1 ha, bx_inr, bx_inr, if_pos rfl]
    · unfold fX10_isForbidden fX10_isForbidden_L27 fX10_isForbidden_L50
      simp only [lt]
      rw [mvar_no hn hr.2.2.1.1 ha, bd_some, if_pos rfl, m00, if_neg (by decide)]
