/-! PURE, 48: do the entries fit, and putting them -/
theorem are_tot (σ : Mem) (m x : Int32) : fX9_areMembers σ m x = some (1, σ) ∨ fX9_areMembers σ m x = some (0, σ) := by
  unfold fX9_areMembers
  by_cases c : ((m.toUInt32 >>> (x.toUInt32 &&& Int32.toUInt32 31)).toInt32) = 0
  · exact Or.inl (if_pos c)
  · exact Or.inr (if_neg c)
theorem f_over {σ : Mem} {e : Nat} (h7 : σ 116 7 = nI e) (he : e ≤ 20) : ∀ j i, i + j = e → ∀ n k, (10 < n ∨ 20 < k) → n + j ≤ 60 → k + j ≤ 60 → ∀ N, j < N → fX2_fits_L13 N σ (nI n) (nI k) (nI i) = some (0, σ) := by
  intro j
  induction j with
  | zero =>
    intro i hi n k ho hn hk N hN
    obtain ⟨N, rfl, hN⟩ := nsub1 hN
    rw [show fX2_fits_L13 (N + 1) = fX2_fits_B13 (fX2_fits_L13 N) from rfl]
    unfold fX2_fits_B13 fX2_fits_L83
    rw [h7, if_pos ((le_i (by omega) (by omega)).2 (by omega))]
    by_cases c : 10 < n
    · rw [if_pos (show (10 : Int32) < nI n from (lt_i (a := 10) (by omega) (by omega)).2 c)]
    · rw [if_neg (show ¬ (10 : Int32) < nI n from fun q => c ((lt_i (a := 10) (by omega) (by omega)).1 q)), if_pos (show (20 : Int32) < nI k from (lt_i (a := 20) (by omega) (by omega)).2 (by omega))]
  | succ j ih =>
    intro i hi n k ho hn hk N hN
    obtain ⟨N, rfl, hN⟩ := nsub1 hN
    rw [show fX2_fits_L13 (N + 1) = fX2_fits_B13 (fX2_fits_L13 N) from rfl]
    unfold fX2_fits_B13 fX2_fits_L61
    rw [h7, if_neg (fun q => absurd ((le_i (by omega) (by omega)).1 q) (by omega)), ck_i (by omega) (by omega), nI_s, nI_s, nI_s]
    by_cases c : σ 118 (nI i).toNatClampNeg = -1
    · rw [if_pos c]
      exact ih (i + 1) (by omega) (n + 1) k (by omega) (by omega) (by omega) N (by omega)
    · rw [if_neg c, ck_i (by omega) (by omega)]
      rcases are_tot σ (σ 119 (nI i).toNatClampNeg) (nI n) with q | q
      · rw [q, bd_some, if_neg (show ¬ (1 : Int32) = 0 by decide)]
        exact ih (i + 1) (by omega) n (k + 1) (by omega) (by omega) (by omega) N (by omega)
      · rw [q, bd_some, if_pos rfl]
theorem fc_loop {e : Nat} (he : e ≤ 20) {σf : Mem} (hf7 : σf 116 7 = nI e) : ∀ j i, i + j = e → ∀ N, j < N → ∀ N', j < N' → ∀ N'', j < N'' → ∀ n k p (σA τ : Mem), prb p n k σA τ → σA 116 7 = nI e → τ 124 54 = nI e → (∀ i, i < e → ∃ r, xE i σf r ∧ xE i σA r ∧ mE i τ r) → (fX2_fits_L13 N σf (nI n) (nI k) (nI i) = some (1, σf) ∧ ∃ σA' τ' p' n' k', fX2_addTo_L2 N' σA (nI i) = some σA' ∧ fX10_comesAll_L2 N'' τ (nI i) = some (1, τ') ∧ prb p' n' k' σA' τ') ∨ (fX2_fits_L13 N σf (nI n) (nI k) (nI i) = some (0, σf) ∧ ∃ τ', fX10_comesAll_L2 N'' τ (nI i) = some (0, τ')) := by
  intro j
  induction j with
  | zero =>
    intro i hi N hN N' hN' N'' hN'' n k p σA τ hp x7 m7 hE
    obtain ⟨N, rfl, hN⟩ := nsub1 hN
    obtain ⟨N', rfl, hN'⟩ := nsub1 hN'
    obtain ⟨N'', rfl, hN''⟩ := nsub1 hN''
    have hn := hp.1.1
    have hk := hp.1.2.1
    left
    refine ⟨?_, σA, τ, p, n, k, ?_, ?_, hp⟩
    · rw [show fX2_fits_L13 (N + 1) = fX2_fits_B13 (fX2_fits_L13 N) from rfl]
      unfold fX2_fits_B13 fX2_fits_L83
      rw [hf7, if_pos ((le_i (by omega) (by omega)).2 (by omega)), if_neg (show ¬ (10 : Int32) < nI n from fun q => absurd ((lt_i (a := 10) (by omega) (by omega)).1 q) (by omega)), if_neg (show ¬ (20 : Int32) < nI k from fun q => absurd ((lt_i (a := 20) (by omega) (by omega)).1 q) (by omega))]
    · rw [show fX2_addTo_L2 (N' + 1) = fX2_addTo_B2 (fX2_addTo_L2 N') from rfl]
      unfold fX2_addTo_B2
      rw [x7, if_pos ((le_i (by omega) (by omega)).2 (by omega))]
    · rw [show fX10_comesAll_L2 (N'' + 1) = fX10_comesAll_B2 (fX10_comesAll_L2 N'') from rfl]
      unfold fX10_comesAll_B2
      rw [m7, if_pos ((le_i (by omega) (by omega)).2 (by omega))]
  | succ j ih =>
    intro i hi N hN N' hN' N'' hN'' n k p σA τ hp x7 m7 hE
    obtain ⟨N, rfl, hN⟩ := nsub1 hN
    obtain ⟨N', rfl, hN'⟩ := nsub1 hN'
    obtain ⟨N'', rfl, hN''⟩ := nsub1 hN''
    have hn := hp.1.1
    have hk := hp.1.2.1
    obtain ⟨r, rf, rA, rm, rm2⟩ := hE i (by omega)
    have m1 := hp.2.2.1.1
    have m2 := hp.2.2.1.2.1
    rw [show fX2_fits_L13 (N + 1) = fX2_fits_B13 (fX2_fits_L13 N) from rfl, show fX2_addTo_L2 (N' + 1) = fX2_addTo_B2 (fX2_addTo_L2 N') from rfl, show fX10_comesAll_L2 (N'' + 1) = fX10_comesAll_B2 (fX10_comesAll_L2 N'') from rfl]
    unfold fX2_fits_B13 fX2_fits_L61 fX2_addTo_B2 fX2_addTo_L61 fX10_comesAll_B2 fX10_comesAll_L65 fX10_comesAll_L95
    simp only [hf7, x7, m7, nI_s, cl_i (show i ≤ 1000000 by omega), ck_i (show i < 20 by omega) (show 20 ≤ 1000000 by omega), ck_i (show i < 30 by omega) (show 30 ≤ 1000000 by omega), if_neg (show ¬ nI e ≤ nI i from fun q => absurd ((le_i (by omega) (by omega)).1 q) (by omega))]
    rcases rf with ⟨s2, s8, f118, f120⟩ | ⟨z, kd, w1, w9, nu, f118, f119, f120, f121⟩
    · rcases rA with ⟨-, -, A118, A120⟩ | ⟨zA, -⟩
      · rw [if_pos f118, if_pos A118, A120, rm, if_neg (show ¬ nI r.2.2.1 ≤ 0 from fun q => absurd ((le_i (b := 0) (by omega) (by omega)).1 q) (by omega)), m1]
        by_cases c : n = 10
        · right
          rw [if_pos (show nI n = (10 : Int32) by rw [c]; rfl)]
          exact ⟨f_over hf7 he j (i + 1) (by omega) (n + 1) k (by omega) (by omega) (by omega) N (by omega), τ, rfl⟩
        · rw [if_neg (show ¬ nI n = (10 : Int32) from fun q => c ((eq_i (b := 10) (by omega) (by omega)).1 q))]
          obtain ⟨σ1, τ1, p', e1, e2, hp'⟩ := put_R hp (by omega) s2 s8
          have a1 := fq_X4_putVariable e1
          have a2 := fq_X10_comesVariable e2
          rw [e1, bv_some, e2, bv_some]
          exact ih (i + 1) (by omega) N (by omega) N' (by omega) N'' (by omega) (n + 1) k p' σ1 τ1 hp' ((a1 _ _ (by omega)).trans x7) ((a2 _ _ (by omega)).trans m7) (fun i' hi' => by
            obtain ⟨r', y1, y2, y3⟩ := hE i' hi'
            exact ⟨r', y1, xE_ag y2 a1 (fun _ _ _ => by omega), mE_ag y3 a2 (fun _ _ _ => by omega)⟩)
      · exact absurd zA (by omega)
    · rcases rA with ⟨s2, -⟩ | ⟨-, -, -, -, -, A118, A119, A120, A121⟩
      · exact absurd s2 (by omega)
      · obtain ⟨g150, g151, g152, g153⟩ := rm2 z
        rw [f118, A118, if_neg (nI_m1 (by omega)), if_neg (nI_m1 (by omega)), f119, A119, A120, A121, rm, z, if_pos (show nI 0 ≤ (0 : Int32) by decide), m2, g151]
        rcases are_iff hn σf τ m1 (m := r.2.2.2.2.1) with ⟨w, hw, ew, q1, q2⟩ | ⟨-, q1, q2⟩
        · rw [q1, bd_some, if_neg (show ¬ (1 : Int32) = 0 by decide)]
          by_cases c : k = 20
          · right
            rw [if_pos (show nI k = (20 : Int32) by rw [c]; rfl)]
            exact ⟨f_over hf7 he j (i + 1) (by omega) n (k + 1) (by omega) (by omega) (by omega) N (by omega), τ, rfl⟩
          · rw [if_neg (show ¬ nI k = (20 : Int32) from fun q => c ((eq_i (b := 20) (by omega) (by omega)).1 q)), q2, bd_some, if_neg (show ¬ (1 : Int32) = 0 by decide), g150, g151, g152, g153]
            obtain ⟨σ1, τ1, p', e1, e2, hp'⟩ := putc_R (a := nI r.2.2.2.1) (b := r.2.2.2.2.1) (c := r.2.2.2.2.2.1) (d := nI r.2.2.2.2.2.2) hp (by omega) ⟨_, kd, rfl⟩ ⟨w, hw, ew⟩ nu ⟨_, w1, w9, rfl⟩
            have a1 := fq_X4_putConstraint e1
            have a2 := fq_X10_comesConstraint e2
            rw [e1, bv_some, e2, bv_some]
            exact ih (i + 1) (by omega) N (by omega) N' (by omega) N'' (by omega) n (k + 1) p' σ1 τ1 hp' ((a1 _ _ (by omega)).trans x7) ((a2 _ _ (by omega)).trans m7) (fun i' hi' => by
              obtain ⟨r', y1, y2, y3⟩ := hE i' hi'
              exact ⟨r', y1, xE_ag y2 a1 (fun _ _ _ => by omega), mE_ag y3 a2 (fun _ _ _ => by omega)⟩)
        · right
          rw [q1, bd_some, if_pos rfl]
          refine ⟨rfl, ?_⟩
          by_cases c : nI k = (20 : Int32)
          · rw [if_pos c]; exact ⟨τ, rfl⟩
          · rw [if_neg c, q2, bd_some, if_pos rfl]; exact ⟨τ, rfl⟩
