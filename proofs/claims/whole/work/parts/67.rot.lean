/-! PURE, 27: rotations; the whole list -/
def ro : Nat → Nat
  | 0 => 0
  | a + 1 => ro a + (9 - a) * (8 - a)
theorem ro_le : ∀ a, a ≤ 10 → ro a ≤ 240 := by decide
theorem ro_le2 : ∀ a, a ≤ 9 → ro a + (9 - a) * (8 - a) ≤ 240 := by decide
theorem rot_in {p : Nat → Nat → Int32} {n k it a b M0 : Nat} {U : Nat → Nat → Nat} {bc kI : Int32} (hv : vld p n k) (hab : a < b) (hbn : b < n) (hM0 : M0 + (8 - a) ≤ 375) (r2 : Mem → Int32 → Option Mem) (r14 : Mem → Int32 → Int32 → Option Mem) (r4 : Mem → Int32 → Int32 → Option Mem) : ∀ (j c : Nat), c + j = n → a < c → ∀ N N', j < N → j < N' → ∀ m σ τ, LSt p n k U it bc kI m σ τ → m ≤ M0 + (c - (a + 1)) → (b < c → m + 1 ≤ M0 + (c - (a + 1))) → ∃ m' σ' τ', fX3_putRotations_L27 r2 r14 N σ (nI a) (nI b) (nI c) = r14 σ' (nI a) (nI (b + 1)) ∧ fX10_listsRotations_L16 r4 N' τ (nI a) (nI b) (nI c) = r4 τ' (nI a) (nI (b + 1)) ∧ LSt p n k U it bc kI m' σ' τ' ∧ m' ≤ M0 + (8 - a) := by
  have hn := hv.1
  obtain ⟨sa, wa, ha2, ha8, hwa, hsa, hwa1⟩ := sz_of hv (show a < n by omega)
  obtain ⟨sb, wb, hb2, hb8, hwb, hsb, hwb1⟩ := sz_of hv hbn
  intro j
  induction j with
  | zero =>
    intro c hc hac N N' hN hN' m σ τ hL hm1 hm2
    obtain ⟨N, rfl, hN⟩ := nsub1 hN
    obtain ⟨N', rfl, hN'⟩ := nsub1 hN'
    have e : c = n := by omega
    subst e
    have := hm2 hbn
    refine ⟨m, σ, τ, ?_, ?_, hL, by omega⟩
    · rw [show fX3_putRotations_L27 r2 r14 (N + 1) = fX3_putRotations_B27 r2 r14 (fX3_putRotations_L27 r2 r14 N) from rfl]
      unfold fX3_putRotations_B27
      rw [hL.1.1, if_pos ((le_i (by omega) (by omega)).2 (Nat.le_refl _)), nI_s]
    · rw [show fX10_listsRotations_L16 r4 (N' + 1) = fX10_listsRotations_B16 r4 (fX10_listsRotations_L16 r4 N') from rfl]
      unfold fX10_listsRotations_B16
      rw [hL.2.1.1.1.1, if_pos ((le_i (by omega) (by omega)).2 (Nat.le_refl _)), nI_s]
  | succ j ih =>
    intro c hc hac N N' hN hN' m σ τ hL hm1 hm2
    obtain ⟨N, rfl, hN⟩ := nsub1 hN
    obtain ⟨N', rfl, hN'⟩ := nsub1 hN'
    have hcn : c < n := by omega
    have hx := hL.1
    have hM := hL.2.1.1
    obtain ⟨sc, wc, hc2, hc8, hwc, hsc, hwc1⟩ := sz_of hv hcn
    have x3 : σ 3 a = nI wa := ((hx.2.2.1 a (by omega)).2).trans hwa1
    have x4 : σ 3 b = nI wb := ((hx.2.2.1 b hbn).2).trans hwb1
    have x5 : σ 3 c = nI wc := ((hx.2.2.1 c hcn).2).trans hwc1
    have m3 : τ 126 a = nI wa := (hM.2 a (by omega)).trans hwa1
    have m4 : τ 126 b = nI wb := (hM.2 b hbn).trans hwb1
    have m5 : τ 126 c = nI wc := (hM.2 c hcn).trans hwc1
    have hlt : ¬ nI n ≤ nI c := fun h => absurd ((le_i (by omega) (by omega)).1 h) (by omega)
    have next : ∀ m1 σ1 τ1, LSt p n k U it bc kI m1 σ1 τ1 → (m1 = m ∨ m1 = m + 1 ∧ b ≠ c) → ∃ m' σ' τ', fX3_putRotations_L27 r2 r14 N σ1 (nI a) (nI b) (nI (c + 1)) = r14 σ' (nI a) (nI (b + 1)) ∧ fX10_listsRotations_L16 r4 N' τ1 (nI a) (nI b) (nI (c + 1)) = r4 τ' (nI a) (nI (b + 1)) ∧ LSt p n k U it bc kI m' σ' τ' ∧ m' ≤ M0 + (8 - a) := fun m1 σ1 τ1 h1 h2 => ih (c + 1) (by omega) (by omega) N N' (by omega) (by omega) m1 σ1 τ1 h1 (by rcases h2 with h2 | h2 <;> omega) (fun hbc => by
      by_cases hb : b < c
      · have := hm2 hb; rcases h2 with h2 | h2 <;> omega
      · have : b = c := by omega
        rcases h2 with h2 | h2 <;> omega)
    rw [show fX3_putRotations_L27 r2 r14 (N + 1) = fX3_putRotations_B27 r2 r14 (fX3_putRotations_L27 r2 r14 N) from rfl, show fX10_listsRotations_L16 r4 (N' + 1) = fX10_listsRotations_B16 r4 (fX10_listsRotations_L16 r4 N') from rfl]
    unfold fX3_putRotations_B27 fX3_putRotations_L62 fX10_listsRotations_B16 fX10_listsRotations_L62 fX10_listsRotations_L112
    simp only [ck_i (show a < 10 by omega) (show 10 ≤ 1000000 by omega), cl_i (show a ≤ 1000000 by omega), ck_i (show b < 10 by omega) (show 10 ≤ 1000000 by omega), cl_i (show b ≤ 1000000 by omega), ck_i (show c < 10 by omega) (show 10 ≤ 1000000 by omega), cl_i (show c ≤ 1000000 by omega), m3, m4, m5, hx.1, hM.1.1, if_neg hlt, nI_s, isin_eq hn hM hbn hsb (show wa ≤ 8 by omega) hb8, isin_eq hn hM hcn hsc (show wb ≤ 8 by omega) hc8, isin_eq hn hM (show a < n by omega) hsa (show wc ≤ 8 by omega) ha8, bd_some]
    by_cases cbc : b = c
    · rw [if_pos (show nI b = nI c by rw [cbc]), if_pos (show nI b = nI c by rw [cbc])]
      exact next m σ τ hL (Or.inl rfl)
    · have hne : ¬ nI b = nI c := fun h => cbc (nI_inj (by omega) (by omega) h)
      rw [if_neg hne, if_neg hne]
      have hrot : fX3_isRotation σ (nI a) (nI b) (nI c) = some (if wa = wb ∧ wb = wc then 0 else if sb ≤ wa then 0 else if sc ≤ wb then 0 else if sa ≤ wc then 0 else 1, σ) := by
        unfold fX3_isRotation fX3_isRotation_L34 fX3_isRotation_L35 fX3_isRotation_L73
        simp only [ck_i (show a < 10 by omega) (show 10 ≤ 1000000 by omega), cl_i (show a ≤ 1000000 by omega), ck_i (show b < 10 by omega) (show 10 ≤ 1000000 by omega), cl_i (show b ≤ 1000000 by omega), ck_i (show c < 10 by omega) (show 10 ≤ 1000000 by omega), cl_i (show c ≤ 1000000 by omega), x3, x4, x5, fits_eq hn hx (show a < n by omega) hbn hwa1 hsb (by omega) hb8, fits_eq hn hx hbn hcn hwb1 hsc (by omega) hc8, fits_eq hn hx hcn (show a < n by omega) hwc1 hsa (by omega) ha8, bd_some]
        have core : (if True then (if (if sb ≤ wa then (0 : Int32) else 1) = 0 then some ((0 : Int32), σ) else if (if sc ≤ wb then (0 : Int32) else 1) = 0 then some ((0 : Int32), σ) else if (if sa ≤ wc then (0 : Int32) else 1) = 0 then some ((0 : Int32), σ) else some ((1 : Int32), σ)) else some ((0 : Int32), σ)) = some (if sb ≤ wa then 0 else if sc ≤ wb then 0 else if sa ≤ wc then 0 else 1, σ) := by
          by_cases d1 : sb ≤ wa
          · simp only [if_pos d1, eq_self, if_true]
          · by_cases d2 : sc ≤ wb
            · simp only [if_neg d1, if_pos d2, eq_self, if_true, eq_false (show ¬ (1 : Int32) = 0 by decide), if_false]
            · by_cases d3 : sa ≤ wc
              · simp only [if_neg d1, if_neg d2, if_pos d3, eq_self, if_true, eq_false (show ¬ (1 : Int32) = 0 by decide), if_false]
              · simp only [if_neg d1, if_neg d2, if_neg d3, if_true, eq_false (show ¬ (1 : Int32) = 0 by decide), if_false]
        by_cases d : wa = wb
        · subst d
          rw [if_pos rfl]
          by_cases d' : wa = wc
          · subst d'
            rw [if_pos rfl, if_neg (by decide), if_pos ⟨rfl, rfl⟩]
          · rw [if_neg (fun h => d' (nI_inj (by omega) (by omega) h)), core, if_neg (show ¬ (wa = wa ∧ wa = wc) from fun h => d' h.2)]
        · rw [if_neg (fun h => d (nI_inj (by omega) (by omega) h)), core, if_neg (show ¬ (wa = wb ∧ wb = wc) from fun h => d h.1)]
      rw [hrot, bd_some]
      by_cases d : wa = wb ∧ wb = wc
      · rw [if_pos d, if_pos rfl, if_pos (show nI wa = nI wb by rw [d.1]), if_pos (show nI wb = nI wc by rw [d.2])]
        exact next m σ τ hL (Or.inl rfl)
      · rw [if_neg d]
        have hmod : ∀ (P Q : Option Mem), (if nI wa = nI wb then (if nI wb = nI wc then P else Q) else Q) = Q := fun P Q => by
          by_cases d1 : wa = wb
          · rw [if_pos (show nI wa = nI wb by rw [d1]), if_neg (fun h => d ⟨d1, nI_inj (by omega) (by omega) h⟩)]
          · rw [if_neg (fun h => d1 (nI_inj (by omega) (by omega) h))]
        rw [hmod]
        by_cases c1 : sb ≤ wa
        · simp only [if_pos c1, eq_self, if_true]
          exact next m σ τ hL (Or.inl rfl)
        · by_cases c2 : sc ≤ wb
          · simp only [if_neg c1, if_pos c2, eq_self, if_true, eq_false (show ¬ (1 : Int32) = 0 by decide), if_false]
            exact next m σ τ hL (Or.inl rfl)
          · by_cases c3 : sa ≤ wc
            · simp only [if_neg c1, if_neg c2, if_pos c3, eq_self, if_true, eq_false (show ¬ (1 : Int32) = 0 by decide), if_false]
              exact next m σ τ hL (Or.inl rfl)
            · simp only [if_neg c1, if_neg c2, if_neg c3, eq_false (show ¬ (1 : Int32) = 0 by decide), if_false]
              have hok : bstOk p n (aft p 3 a b c) := by
                show bstOk p n (upd (upd (upd (p 1) b (p 1 a)) c (p 1 b)) a (p 1 c))
                refine ok_upd (ok_upd (ok_upd (ok_base hv) (fun s' e' h' => ⟨wa, ?_, hwa1⟩)) (fun s' e' h' => ⟨wb, ?_, hwb1⟩)) (fun s' e' h' => ⟨wc, ?_, hwc1⟩)
                · have := nI_inj (by omega) (by omega) (hsb.symm.trans e'); omega
                · have := nI_inj (by omega) (by omega) (hsc.symm.trans e'); omega
                · have := nI_inj (by omega) (by omega) (hsa.symm.trans e'); omega
              have hm375 : m < 375 := by
                by_cases hb : b < c
                · have := hm2 hb; omega
                · omega
              obtain ⟨σ1, τ1, e1, e2, hL1⟩ := put_step (cI := nI c) (c := c) hv hL hm375 (kd := 3) (a := a) (b := b) ⟨by omega, by omega, fun h => absurd h (by decide), fun h => absurd h (by decide), fun h => absurd h (by decide), fun _ => ⟨hbn, hcn⟩⟩ (fun _ => rfl) hok
              have e1' : fX3_put σ 3 (nI a) (nI b) (nI c) = some σ1 := e1
              have e2' : fX10_lists τ 3 (nI a) (nI b) (nI c) = some τ1 := e2
              rw [e1', e2', bv_some, bv_some]
              exact next (m + 1) σ1 τ1 hL1 (Or.inr ⟨rfl, cbc⟩)
theorem rot_mid {p : Nat → Nat → Int32} {n k it a : Nat} {U : Nat → Nat → Nat} {bc kI : Int32} (hv : vld p n k) (ha : a < n) (r2 : Mem → Int32 → Option Mem) : ∀ (j b : Nat), b + j = n → a < b → ∀ N N', j < N → j < N' → ∀ m σ τ, LSt p n k U it bc kI m σ τ → m ≤ 135 + ro a + (b - (a + 1)) * (8 - a) → ∃ m' σ' τ', fX3_putRotations_L14 r2 N σ (nI a) (nI b) = r2 σ' (nI (a + 1)) ∧ fX10_listsRotations_L4 N' τ (nI a) (nI b) = some τ' ∧ LSt p n k U it bc kI m' σ' τ' ∧ m' ≤ 135 + ro (a + 1) := by
  have hn := hv.1
  have hro := ro_le2 a (by omega)
  intro j
  induction j with
  | zero =>
    intro b hb hab N N' hN hN' m σ τ hL hm
    obtain ⟨N, rfl, hN⟩ := nsub1 hN
    obtain ⟨N', rfl, hN'⟩ := nsub1 hN'
    have e : b = n := by omega
    subst e
    have e1 : ro (a + 1) = ro a + (9 - a) * (8 - a) := rfl
    have e2 : (b - (a + 1)) * (8 - a) ≤ (9 - a) * (8 - a) := Nat.mul_le_mul_right _ (by omega)
    refine ⟨m, σ, τ, ?_, ?_, hL, by omega⟩
    · rw [show fX3_putRotations_L14 r2 (N + 1) = fX3_putRotations_B14 r2 (fX3_putRotations_L14 r2 N) from rfl]
      unfold fX3_putRotations_B14
      rw [hL.1.1, if_pos ((le_i (by omega) (by omega)).2 (Nat.le_refl _)), nI_s]
    · rw [show fX10_listsRotations_L4 (N' + 1) = fX10_listsRotations_B4 (fX10_listsRotations_L4 N') from rfl]
      unfold fX10_listsRotations_B4
      rw [hL.2.1.1.1.1, if_pos ((le_i (by omega) (by omega)).2 (Nat.le_refl _))]
  | succ j ih =>
    intro b hb hab N N' hN hN' m σ τ hL hm
    obtain ⟨N, rfl, hN⟩ := nsub1 hN
    obtain ⟨N', rfl, hN'⟩ := nsub1 hN'
    have e2 : (b - (a + 1) + 1) * (8 - a) ≤ (9 - a) * (8 - a) := Nat.mul_le_mul_right _ (by omega)
    have e3 : (b - (a + 1) + 1) * (8 - a) = (b - (a + 1)) * (8 - a) + (8 - a) := Nat.succ_mul _ _
    have e4 : (b + 1 - (a + 1)) * (8 - a) = (b - (a + 1) + 1) * (8 - a) := by rw [show b + 1 - (a + 1) = b - (a + 1) + 1 by omega]
    obtain ⟨m1, σ1, τ1, f1, f2, hL1, hm1⟩ := rot_in (M0 := 135 + ro a + (b - (a + 1)) * (8 - a)) hv hab (by omega) (by omega) r2 (fX3_putRotations_L14 r2 N) (fX10_listsRotations_L4 N') (n - (a + 1)) (a + 1) (by omega) (by omega) FU FU (FU_lt (by omega)) (FU_lt (by omega)) m σ τ hL (by omega) (fun h => by omega)
    obtain ⟨m2, σ2, τ2, f3, f4, hL2, hm2⟩ := ih (b + 1) (by omega) (by omega) N N' (by omega) (by omega) m1 σ1 τ1 hL1 (by omega)
    refine ⟨m2, σ2, τ2, ?_, ?_, hL2, hm2⟩
    · rw [show fX3_putRotations_L14 r2 (N + 1) = fX3_putRotations_B14 r2 (fX3_putRotations_L14 r2 N) from rfl]
      unfold fX3_putRotations_B14
      rw [hL.1.1, if_neg (fun h => absurd ((le_i (by omega) (by omega)).1 h) (by omega)), nI_s, f1, f3]
    · rw [show fX10_listsRotations_L4 (N' + 1) = fX10_listsRotations_B4 (fX10_listsRotations_L4 N') from rfl]
      unfold fX10_listsRotations_B4
      rw [hL.2.1.1.1.1, if_neg (fun h => absurd ((le_i (by omega) (by omega)).1 h) (by omega)), nI_s, f2, f4]
theorem rot_out {p : Nat → Nat → Int32} {n k it : Nat} {U : Nat → Nat → Nat} {bc kI : Int32} (hv : vld p n k) (hk : hb kI 3 = true) : ∀ (j a : Nat), a + j = n → ∀ N N', j < N → j < N' → ∀ m σ τ, LSt p n k U it bc kI m σ τ → m ≤ 135 + ro a → ∃ m' σ' τ', fX3_putRotations_L2 N σ (nI a) = some σ' ∧ fX10_findMoves_L114 N' τ (nI a) = some τ' ∧ LSt p n k U it bc kI m' σ' τ' ∧ m' ≤ 375 := by
  have hn := hv.1
  intro j
  induction j with
  | zero =>
    intro a ha N N' hN hN' m σ τ hL hm
    obtain ⟨N, rfl, hN⟩ := nsub1 hN
    obtain ⟨N', rfl, hN'⟩ := nsub1 hN'
    have e : a = n := by omega
    subst e
    have := ro_le a hn
    refine ⟨m, σ, τ, ?_, ?_, hL, by omega⟩
    · rw [show fX3_putRotations_L2 (N + 1) = fX3_putRotations_B2 (fX3_putRotations_L2 N) from rfl]
      unfold fX3_putRotations_B2
      rw [hL.1.1, if_pos ((le_i (by omega) (by omega)).2 (Nat.le_refl _))]
    · rw [show fX10_findMoves_L114 (N' + 1) = fX10_findMoves_B114 (fX10_findMoves_L114 N') from rfl]
      unfold fX10_findMoves_B114
      rw [hL.2.1.1.1.1, if_pos ((le_i (by omega) (by omega)).2 (Nat.le_refl _))]
  | succ j ih =>
    intro a ha N N' hN hN' m σ τ hL hm
    obtain ⟨N, rfl, hN⟩ := nsub1 hN
    obtain ⟨N', rfl, hN'⟩ := nsub1 hN'
    obtain ⟨m1, σ1, τ1, e1, e2, hL1, hm1⟩ := rot_mid hv (show a < n by omega) (fX3_putRotations_L2 N) (n - (a + 1)) (a + 1) (by omega) (by omega) FU FU (FU_lt (by omega)) (FU_lt (by omega)) m σ τ hL (by omega)
    obtain ⟨m2, σ2, τ2, e3, e4, hL2, hm2⟩ := ih (a + 1) (by omega) N N' (by omega) (by omega) m1 σ1 τ1 hL1 hm1
    refine ⟨m2, σ2, τ2, ?_, ?_, hL2, hm2⟩
    · rw [show fX3_putRotations_L2 (N + 1) = fX3_putRotations_B2 (fX3_putRotations_L2 N) from rfl]
      unfold fX3_putRotations_B2
      rw [hL.1.1, if_neg (fun h => absurd ((le_i (by omega) (by omega)).1 h) (by omega)), ← e3, ← e1, nI_s]
    · have eL : fX10_listsRotations τ (nI a) = some τ1 := by
        unfold fX10_listsRotations
        rw [nI_s]
        exact e2
      rw [show fX10_findMoves_L114 (N' + 1) = fX10_findMoves_B114 (fX10_findMoves_L114 N') from rfl]
      unfold fX10_findMoves_B114
      rw [hL.2.1.1.1.1, if_neg (fun h => absurd ((le_i (by omega) (by omega)).1 h) (by omega)), hL.2.1.2.2.2.2.2, (show fX10_has τ kI 3 = some (1, τ) from has_t τ hk), bd_some, if_neg (by decide), eL, bv_some, nI_s, e4]
theorem fill_R {p : Nat → Nat → Int32} {n k it : Nat} {U : Nat → Nat → Nat} {bc kI : Int32} {σ τ : Mem} (hv : vld p n k) (hx : isX 1 σ p n k) (hL : LM p n k U it bc kI τ) : ∃ m σ' τ', fX3_fill σ kI = some σ' ∧ fX10_findMoves τ = some τ' ∧ LSt p n k U it bc kI m σ' τ' ∧ m ≤ 375 := by
  have hn := hv.1
  have s0 : LSt p n k U it bc kI 0 (mst σ 98 1 0) (mst τ 124 39 0) := ⟨isX_ag hx (ag_mst (W := fun c i => c = 98 ∧ i = 1) _ _ ⟨rfl, rfl⟩) (fun _ _ _ => by omega), LM_ag hL (ag_mst (W := fun c i => c = 124 ∧ i = 39) _ _ ⟨rfl, rfl⟩) (fun _ _ _ => by omega), by rw [mst_at, upd_at]; rfl, by rw [mst_at, upd_at]; rfl, fun j hj => absurd hj (Nat.not_lt_zero j)⟩
  generalize hs : mst σ 98 1 0 = σ0 at s0
  generalize ht : mst τ 124 39 0 = τ0 at s0
  -- a kind that isn't wanted
  have skip7 : hb kI 0 = false → ∀ τ, LM p n k U it bc kI τ → fX10_findMoves_L7 FU τ 0 = fX10_findMoves_L37 τ := fun h τ hL => by
    obtain ⟨N9, hN9⟩ : ∃ N9, FU = N9 + 1 := ⟨4194303, rfl⟩
    rw [hN9, show fX10_findMoves_L7 (N9 + 1) = fX10_findMoves_B7 (fX10_findMoves_L7 N9) from rfl]
    unfold fX10_findMoves_B7
    rw [hL.2.2.2.2.2, (show fX10_has τ kI 0 = some (0, τ) from has_f τ h), bd_some, if_pos rfl, ite_self]
  have skip39 : hb kI 1 = false → ∀ τ, LM p n k U it bc kI τ → fX10_findMoves_L39 FU τ 0 = fX10_findMoves_L69 τ := fun h τ hL => by
    obtain ⟨N9, hN9⟩ : ∃ N9, FU = N9 + 1 := ⟨4194303, rfl⟩
    rw [hN9, show fX10_findMoves_L39 (N9 + 1) = fX10_findMoves_B39 (fX10_findMoves_L39 N9) from rfl]
    unfold fX10_findMoves_B39
    rw [hL.2.2.2.2.2, (show fX10_has τ kI 1 = some (0, τ) from has_f τ h), bd_some, if_pos rfl, ite_self]
  have skip71 : hb kI 2 = false → ∀ τ, LM p n k U it bc kI τ → fX10_findMoves_L71 FU τ 0 = fX10_findMoves_L112 τ := fun h τ hL => by
    obtain ⟨N9, hN9⟩ : ∃ N9, FU = N9 + 1 := ⟨4194303, rfl⟩
    rw [hN9, show fX10_findMoves_L71 (N9 + 1) = fX10_findMoves_B71 (fX10_findMoves_L71 N9) from rfl]
    unfold fX10_findMoves_B71
    rw [hL.2.2.2.2.2, (show fX10_has τ kI 2 = some (0, τ) from has_f τ h), bd_some, if_pos rfl, ite_self]
  have skip114 : hb kI 3 = false → ∀ τ, LM p n k U it bc kI τ → fX10_findMoves_L114 FU τ 0 = some τ := fun h τ hL => by
    obtain ⟨N9, hN9⟩ : ∃ N9, FU = N9 + 1 := ⟨4194303, rfl⟩
    rw [hN9, show fX10_findMoves_L114 (N9 + 1) = fX10_findMoves_B114 (fX10_findMoves_L114 N9) from rfl]
    unfold fX10_findMoves_B114
    rw [hL.2.2.2.2.2, (show fX10_has τ kI 3 = some (0, τ) from has_f τ h), bd_some, if_pos rfl, ite_self]
  have st4 : ∀ m σ τ, LSt p n k U it bc kI m σ τ → m ≤ 135 → ∃ m' σ' τ', fX3_fill_L44 σ kI = some σ' ∧ fX10_findMoves_L112 τ = some τ' ∧ LSt p n k U it bc kI m' σ' τ' ∧ m' ≤ 375 := fun m σ τ h hm => by
    cases hk : hb kI 3 with
    | true =>
      obtain ⟨m', σ', τ', e1, e2, h', hm'⟩ := rot_out hv hk n 0 (by omega) FU FU (FU_lt (by omega)) (FU_lt (by omega)) m σ τ h (by show m ≤ 135 + 0; omega)
      refine ⟨m', σ', τ', ?_, e2, h', hm'⟩
      have e1' : fX3_putRotations σ = some σ' := e1
      unfold fX3_fill_L44
      rw [e1', bv_some]
      exact ite_t hk _ _
    | false =>
      refine ⟨m, σ, τ, ?_, skip114 hk τ h.2.1, h, by omega⟩
      unfold fX3_fill_L44
      exact ite_f hk _ _
  have st3 : ∀ m σ τ, LSt p n k U it bc kI m σ τ → m ≤ 115 → ∃ m' σ' τ', fX3_fill_L31 σ kI = some σ' ∧ fX10_findMoves_L69 τ = some τ' ∧ LSt p n k U it bc kI m' σ' τ' ∧ m' ≤ 375 := fun m σ τ h hm => by
    cases hk : hb kI 2 with
    | true =>
      obtain ⟨m1, σ1, τ1, e1, e2, h1, hm1⟩ := shifts_out hv hk n 0 (by omega) FU FU (FU_lt (by omega)) (FU_lt (by omega)) m σ τ h (by omega)
      obtain ⟨m', σ', τ', e3, e4, h', hm'⟩ := st4 m1 σ1 τ1 h1 hm1
      have e1' : fX3_putShifts σ = some σ1 := e1
      have e2' : fX10_findMoves_L69 τ = fX10_findMoves_L112 τ1 := e2
      refine ⟨m', σ', τ', ?_, e2'.trans e4, h', hm'⟩
      unfold fX3_fill_L31
      rw [e1', bv_some]
      exact (ite_t hk _ _).trans e3
    | false =>
      obtain ⟨m', σ', τ', e3, e4, h', hm'⟩ := st4 m σ τ h (by omega)
      have e2' : fX10_findMoves_L69 τ = fX10_findMoves_L112 τ := skip71 hk τ h.2.1
      refine ⟨m', σ', τ', ?_, e2'.trans e4, h', hm'⟩
      unfold fX3_fill_L31
      exact (ite_f hk _ _).trans e3
  have st2 : ∀ m σ τ, LSt p n k U it bc kI m σ τ → m ≤ 70 → ∃ m' σ' τ', fX3_fill_L18 σ kI = some σ' ∧ fX10_findMoves_L37 τ = some τ' ∧ LSt p n k U it bc kI m' σ' τ' ∧ m' ≤ 375 := fun m σ τ h hm => by
    cases hk : hb kI 1 with
    | true =>
      obtain ⟨m1, σ1, τ1, e1, e2, h1, hm1⟩ := swaps_out hv hk n 0 (by omega) FU FU (FU_lt (by omega)) (FU_lt (by omega)) m σ τ h (by show m ≤ 70 + 0; omega)
      obtain ⟨m', σ', τ', e3, e4, h', hm'⟩ := st3 m1 σ1 τ1 h1 hm1
      have e1' : fX3_putSwaps σ = some σ1 := e1
      have e2' : fX10_findMoves_L37 τ = fX10_findMoves_L69 τ1 := e2
      refine ⟨m', σ', τ', ?_, e2'.trans e4, h', hm'⟩
      unfold fX3_fill_L18
      rw [e1', bv_some]
      exact (ite_t hk _ _).trans e3
    | false =>
      obtain ⟨m', σ', τ', e3, e4, h', hm'⟩ := st3 m σ τ h (by omega)
      have e2' : fX10_findMoves_L37 τ = fX10_findMoves_L69 τ := skip39 hk τ h.2.1
      refine ⟨m', σ', τ', ?_, e2'.trans e4, h', hm'⟩
      unfold fX3_fill_L18
      exact (ite_f hk _ _).trans e3
  have efm : ∀ t, fX10_findMoves_L7 FU τ0 0 = t → fX10_findMoves τ = t := fun t h => by
    unfold fX10_findMoves
    rw [lt_e2, ht, h]
  cases hk : hb kI 0 with
  | true =>
    obtain ⟨m1, σ1, τ1, e1, e2, h1, hm1⟩ := sets_out hv hk n 0 (by omega) FU FU (FU_lt (by omega)) (FU_lt (by omega)) 0 σ0 τ0 s0 (by omega)
    obtain ⟨m', σ', τ', e3, e4, h', hm'⟩ := st2 m1 σ1 τ1 h1 hm1
    have e1' : fX3_putSets σ0 = some σ1 := e1
    rw [nI_0] at e2
    refine ⟨m', σ', τ', ?_, (efm _ e2).trans e4, h', hm'⟩
    unfold fX3_fill
    rw [lt_e2, hs, e1', bv_some]
    exact (ite_t hk _ _).trans e3
  | false =>
    obtain ⟨m', σ', τ', e3, e4, h', hm'⟩ := st2 0 σ0 τ0 s0 (by omega)
    refine ⟨m', σ', τ', ?_, (efm _ (skip7 hk τ0 s0.2.1)).trans e4, h', hm'⟩
    unfold fX3_fill
    rw [lt_e2, hs]
    exact (ite_f hk _ _).trans e3
