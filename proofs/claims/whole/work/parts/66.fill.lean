/-! PURE, 26: both lists of moves, kind by kind -/
theorem sz_of {p : Nat → Nat → Int32} {n k v : Nat} (hv : vld p n k) (h : v < n) : ∃ s w, 2 ≤ s ∧ s ≤ 8 ∧ w < s ∧ p 0 v = nI s ∧ p 1 v = nI w := hv.2.2.1 v h
theorem ok_upd {p : Nat → Nat → Int32} {n a : Nat} {r : Nat → Int32} {x : Int32} (h : bstOk p n r) (hx : ∀ s, p 0 a = nI s → s ≤ 8 → ∃ u, u < s ∧ x = nI u) : bstOk p n (upd r a x) := fun v hv => by
  obtain ⟨s, w, h1, h2, h3, h4, h5⟩ := h v hv
  by_cases e : v = a
  · subst e
    obtain ⟨u, hu, eu⟩ := hx s h4 h2
    exact ⟨s, u, h1, h2, hu, h4, by rw [upd_at]; exact eu⟩
  · exact ⟨s, w, h1, h2, h3, h4, by rw [upd_ne _ _ e]; exact h5⟩
theorem ok_base {p : Nat → Nat → Int32} {n k : Nat} (hv : vld p n k) : bstOk p n (p 1) := hv.2.2.1
theorem nI_inj {a b : Nat} (ha : a ≤ 1000000) (hb : b ≤ 1000000) (h : nI a = nI b) : a = b := (eq_i ha hb).1 h
theorem sets_in {p : Nat → Nat → Int32} {n k it a s w : Nat} {U : Nat → Nat → Nat} {bc kI : Int32} (hv : vld p n k) (ha : a < n) (h2 : 2 ≤ s) (h8 : s ≤ 8) (hw : w < s) (hs : p 0 a = nI s) (hw1 : p 1 a = nI w) (r2 : Mem → Int32 → Option Mem) : ∀ (j b : Nat), b + j = s → ∀ N N', j < N → j < N' → ∀ m σ τ, LSt p n k U it bc kI m σ τ → m ≤ 7 * a + b → (w < b → m + 1 ≤ 7 * a + b) → ∃ m' σ' τ', fX3_putSets_L12 r2 N σ (nI a) (nI b) = r2 σ' (nI (a + 1)) ∧ fX10_listsSets_L2 N' τ (nI a) (nI b) = some τ' ∧ LSt p n k U it bc kI m' σ' τ' ∧ m' ≤ 7 * (a + 1) := by
  have hn := hv.1
  intro j
  induction j with
  | zero =>
    intro b hb N N' hN hN' m σ τ hL hm1 hm2
    obtain ⟨N, rfl, hN⟩ := nsub1 hN
    obtain ⟨N', rfl, hN'⟩ := nsub1 hN'
    have e : b = s := by omega
    subst e
    have hx := hL.1
    have hM := hL.2.1.1
    refine ⟨m, σ, τ, ?_, ?_, hL, by have := hm2 hw; omega⟩
    · rw [show fX3_putSets_L12 r2 (N + 1) = fX3_putSets_B12 r2 (fX3_putSets_L12 r2 N) from rfl]
      unfold fX3_putSets_B12
      rw [ck_i (by omega) (by omega), cl_i (by omega), show σ 2 a = nI b from ((hx.2.2.1 a ha).1).trans hs, if_pos ((le_i (by omega) (by omega)).2 (Nat.le_refl _)), nI_s]
    · rw [show fX10_listsSets_L2 (N' + 1) = fX10_listsSets_B2 (fX10_listsSets_L2 N') from rfl]
      unfold fX10_listsSets_B2
      rw [ck_i (by omega) (by omega), cl_i (by omega), show τ 125 a = nI b from (hM.1.2.2.1 a ha).trans hs, if_pos ((le_i (by omega) (by omega)).2 (Nat.le_refl _))]
  | succ j ih =>
    intro b hb N N' hN hN' m σ τ hL hm1 hm2
    obtain ⟨N, rfl, hN⟩ := nsub1 hN
    obtain ⟨N', rfl, hN'⟩ := nsub1 hN'
    have hx := hL.1
    have hM := hL.2.1.1
    have x2 : σ 2 a = nI s := ((hx.2.2.1 a ha).1).trans hs
    have x3 : σ 3 a = nI w := ((hx.2.2.1 a ha).2).trans hw1
    have m2 : τ 125 a = nI s := (hM.1.2.2.1 a ha).trans hs
    have m3 : τ 126 a = nI w := (hM.2 a ha).trans hw1
    have hlt : ¬ nI s ≤ nI b := fun h => absurd ((le_i (by omega) (by omega)).1 h) (by omega)
    rw [show fX3_putSets_L12 r2 (N + 1) = fX3_putSets_B12 r2 (fX3_putSets_L12 r2 N) from rfl, show fX10_listsSets_L2 (N' + 1) = fX10_listsSets_B2 (fX10_listsSets_L2 N') from rfl]
    unfold fX3_putSets_B12 fX3_putSets_L40 fX10_listsSets_B2 fX10_listsSets_L30
    simp only [ck_i (show a < 10 by omega) (show 10 ≤ 1000000 by omega), cl_i (show a ≤ 1000000 by omega), x2, x3, m2, m3, if_neg hlt, nI_s]
    by_cases c : b = w
    · subst c
      rw [if_pos rfl, if_pos rfl]
      exact ih (b + 1) (by omega) N N' (by omega) (by omega) m σ τ hL (by omega) (fun _ => by omega)
    · have hne : ¬ nI b = nI w := fun h => c (nI_inj (by omega) (by omega) h)
      rw [if_neg hne, if_neg hne]
      have hok : bstOk p n (aft p 0 a b 0) := ok_upd (ok_base hv) (fun s' e' h' => ⟨b, by have := nI_inj (by omega) (by omega) (hs.symm.trans e'); omega, rfl⟩)
      obtain ⟨σ1, τ1, e1, e2, hL1⟩ := put_step (cI := -1) (c := 0) hv hL (by omega) (kd := 0) (a := a) (b := b) ⟨by omega, ha, fun _ => by omega, fun h => absurd h (by decide), fun h => absurd h (by decide), fun h => absurd h (by decide)⟩ (fun h => absurd h (by decide)) hok
      rw [show (0 : Int32) = nI 0 from rfl, e1, e2, bv_some, bv_some]
      exact ih (b + 1) (by omega) N N' (by omega) (by omega) (m + 1) σ1 τ1 hL1 (by omega) (fun hh => by
        by_cases cw : w < b
        · have := hm2 cw; omega
        · omega)
theorem sets_out {p : Nat → Nat → Int32} {n k it : Nat} {U : Nat → Nat → Nat} {bc kI : Int32} (hv : vld p n k) (hk : hb kI 0 = true) : ∀ (j a : Nat), a + j = n → ∀ N N', j < N → j < N' → ∀ m σ τ, LSt p n k U it bc kI m σ τ → m ≤ 7 * a → ∃ m' σ' τ', fX3_putSets_L2 N σ (nI a) = some σ' ∧ fX10_findMoves_L7 N' τ (nI a) = fX10_findMoves_L37 τ' ∧ LSt p n k U it bc kI m' σ' τ' ∧ m' ≤ 70 := by
  have hn := hv.1
  intro j
  induction j with
  | zero =>
    intro a ha N N' hN hN' m σ τ hL hm
    obtain ⟨N, rfl, hN⟩ := nsub1 hN
    obtain ⟨N', rfl, hN'⟩ := nsub1 hN'
    have e : a = n := by omega
    subst e
    refine ⟨m, σ, τ, ?_, ?_, hL, by omega⟩
    · rw [show fX3_putSets_L2 (N + 1) = fX3_putSets_B2 (fX3_putSets_L2 N) from rfl]
      unfold fX3_putSets_B2
      rw [hL.1.1, if_pos ((le_i (by omega) (by omega)).2 (Nat.le_refl _))]
    · rw [show fX10_findMoves_L7 (N' + 1) = fX10_findMoves_B7 (fX10_findMoves_L7 N') from rfl]
      unfold fX10_findMoves_B7
      rw [hL.2.1.1.1.1, if_pos ((le_i (by omega) (by omega)).2 (Nat.le_refl _))]
  | succ j ih =>
    intro a ha N N' hN hN' m σ τ hL hm
    obtain ⟨N, rfl, hN⟩ := nsub1 hN
    obtain ⟨N', rfl, hN'⟩ := nsub1 hN'
    obtain ⟨s, w, h2, h8, hw, hs, hw1⟩ := sz_of hv (show a < n by omega)
    obtain ⟨m1, σ1, τ1, e1, e2, hL1, hm1⟩ := sets_in hv (by omega) h2 h8 hw hs hw1 (fX3_putSets_L2 N) s 0 (by omega) FU FU (FU_lt (by omega)) (FU_lt (by omega)) m σ τ hL (by omega) (fun h => absurd h (by omega))
    obtain ⟨m2, σ2, τ2, e3, e4, hL2, hm2⟩ := ih (a + 1) (by omega) N N' (by omega) (by omega) m1 σ1 τ1 hL1 hm1
    refine ⟨m2, σ2, τ2, ?_, ?_, hL2, hm2⟩
    · rw [show fX3_putSets_L2 (N + 1) = fX3_putSets_B2 (fX3_putSets_L2 N) from rfl]
      unfold fX3_putSets_B2
      rw [hL.1.1, if_neg (fun h => absurd ((le_i (by omega) (by omega)).1 h) (by omega)), ← e3, ← e1, nI_0]
    · have eL : fX10_listsSets τ (nI a) = some τ1 := by
        unfold fX10_listsSets
        rw [← nI_0]
        exact e2
      rw [show fX10_findMoves_L7 (N' + 1) = fX10_findMoves_B7 (fX10_findMoves_L7 N') from rfl]
      unfold fX10_findMoves_B7
      rw [hL.2.1.1.1.1, if_neg (fun h => absurd ((le_i (by omega) (by omega)).1 h) (by omega)), hL.2.1.2.2.2.2.2, ← nI_0, has_t _ hk, bd_some, if_neg (by decide), eL, bv_some, nI_s, e4]
def sw : Nat → Nat
  | 0 => 0
  | a + 1 => sw a + (9 - a)
theorem sw_le : ∀ a, a ≤ 10 → sw a ≤ 45 := by decide
theorem fits_eq {σ : Mem} {p : Nat → Nat → Int32} {n k a b w s : Nat} (hn : n ≤ 10) (hx : isX 1 σ p n k) (ha : a < n) (hb : b < n) (hw : p 1 a = nI w) (hs : p 0 b = nI s) (hw8 : w ≤ 8) (hs8 : s ≤ 8) : fX3_fits σ (nI a) (nI b) = some (if s ≤ w then 0 else 1, σ) := by
  unfold fX3_fits
  rw [ck_i (by omega) (by omega), ck_i (by omega) (by omega), cl_i (by omega), cl_i (by omega), show σ 2 b = nI s from ((hx.2.2.1 b hb).1).trans hs, show σ 3 a = nI w from ((hx.2.2.1 a ha).2).trans hw]
  by_cases c : s ≤ w
  · rw [if_pos ((le_i (by omega) (by omega)).2 c), if_pos c]
  · rw [if_neg (fun h => c ((le_i (by omega) (by omega)).1 h)), if_neg c]
theorem isin_eq {τ : Mem} {p : Nat → Nat → Int32} {n k b w s : Nat} (hn : n ≤ 10) (hx : isM τ p n k) (hb : b < n) (hs : p 0 b = nI s) (hw8 : w ≤ 8) (hs8 : s ≤ 8) : fX10_isIn τ (nI b) (nI w) = some (if s ≤ w then 0 else 1, τ) := by
  unfold fX10_isIn fX10_isIn_L18
  rw [if_neg (nI_pos (by omega)), ck_i (by omega) (by omega), cl_i (by omega), show τ 125 b = nI s from (hx.1.2.2.1 b hb).trans hs]
  by_cases c : s ≤ w
  · rw [if_pos ((le_i (by omega) (by omega)).2 c), if_pos c]
  · rw [if_neg (fun h => c ((le_i (by omega) (by omega)).1 h)), if_neg c]
theorem swaps_in {p : Nat → Nat → Int32} {n k it a : Nat} {U : Nat → Nat → Nat} {bc kI : Int32} (hv : vld p n k) (ha : a < n) (r2 : Mem → Int32 → Option Mem) : ∀ (j b : Nat), b + j = n → a < b → ∀ N N', j < N → j < N' → ∀ m σ τ, LSt p n k U it bc kI m σ τ → m ≤ 70 + sw a + (b - (a + 1)) → ∃ m' σ' τ', fX3_putSwaps_L14 r2 N σ (nI a) (nI b) = r2 σ' (nI (a + 1)) ∧ fX10_listsSwaps_L4 N' τ (nI a) (nI b) = some τ' ∧ LSt p n k U it bc kI m' σ' τ' ∧ m' ≤ 70 + sw (a + 1) := by
  have hn := hv.1
  have hsw := sw_le a (by omega)
  intro j
  induction j with
  | zero =>
    intro b hb hab N N' hN hN' m σ τ hL hm
    obtain ⟨N, rfl, hN⟩ := nsub1 hN
    obtain ⟨N', rfl, hN'⟩ := nsub1 hN'
    have e : b = n := by omega
    subst e
    have esw : sw (a + 1) = sw a + (9 - a) := rfl
    refine ⟨m, σ, τ, ?_, ?_, hL, by omega⟩
    · rw [show fX3_putSwaps_L14 r2 (N + 1) = fX3_putSwaps_B14 r2 (fX3_putSwaps_L14 r2 N) from rfl]
      unfold fX3_putSwaps_B14
      rw [hL.1.1, if_pos ((le_i (by omega) (by omega)).2 (Nat.le_refl _)), nI_s]
    · rw [show fX10_listsSwaps_L4 (N' + 1) = fX10_listsSwaps_B4 (fX10_listsSwaps_L4 N') from rfl]
      unfold fX10_listsSwaps_B4
      rw [hL.2.1.1.1.1, if_pos ((le_i (by omega) (by omega)).2 (Nat.le_refl _))]
  | succ j ih =>
    intro b hb hab N N' hN hN' m σ τ hL hm
    obtain ⟨N, rfl, hN⟩ := nsub1 hN
    obtain ⟨N', rfl, hN'⟩ := nsub1 hN'
    have hx := hL.1
    have hM := hL.2.1.1
    obtain ⟨sa, wa, ha2, ha8, hwa, hsa, hwa1⟩ := sz_of hv ha
    obtain ⟨sb, wb, hb2, hb8, hwb, hsb, hwb1⟩ := sz_of hv (show b < n by omega)
    have x3 : σ 3 a = nI wa := ((hx.2.2.1 a ha).2).trans hwa1
    have x4 : σ 3 b = nI wb := ((hx.2.2.1 b (by omega)).2).trans hwb1
    have m3 : τ 126 a = nI wa := (hM.2 a ha).trans hwa1
    have m4 : τ 126 b = nI wb := (hM.2 b (by omega)).trans hwb1
    have hlt : ¬ nI n ≤ nI b := fun h => absurd ((le_i (by omega) (by omega)).1 h) (by omega)
    have next : ∀ m1 σ1 τ1, LSt p n k U it bc kI m1 σ1 τ1 → m1 ≤ m + 1 → ∃ m' σ' τ', fX3_putSwaps_L14 r2 N σ1 (nI a) (nI (b + 1)) = r2 σ' (nI (a + 1)) ∧ fX10_listsSwaps_L4 N' τ1 (nI a) (nI (b + 1)) = some τ' ∧ LSt p n k U it bc kI m' σ' τ' ∧ m' ≤ 70 + sw (a + 1) := fun m1 σ1 τ1 h1 h2 => ih (b + 1) (by omega) (by omega) N N' (by omega) (by omega) m1 σ1 τ1 h1 (by omega)
    rw [show fX3_putSwaps_L14 r2 (N + 1) = fX3_putSwaps_B14 r2 (fX3_putSwaps_L14 r2 N) from rfl, show fX10_listsSwaps_L4 (N' + 1) = fX10_listsSwaps_B4 (fX10_listsSwaps_L4 N') from rfl]
    unfold fX3_putSwaps_B14 fX3_putSwaps_L63 fX10_listsSwaps_B4 fX10_listsSwaps_L63
    simp only [ck_i (show a < 10 by omega) (show 10 ≤ 1000000 by omega), cl_i (show a ≤ 1000000 by omega), ck_i (show b < 10 by omega) (show 10 ≤ 1000000 by omega), cl_i (show b ≤ 1000000 by omega), x3, x4, m3, m4, hx.1, hM.1.1, if_neg hlt, nI_s, fits_eq hn hx ha (show b < n by omega) hwa1 hsb (by omega) hb8, fits_eq hn hx (show b < n by omega) ha hwb1 hsa (by omega) ha8, isin_eq hn hM ha hsa (show wb ≤ 8 by omega) ha8, isin_eq hn hM (show b < n by omega) hsb (show wa ≤ 8 by omega) hb8, bd_some]
    by_cases c : nI wa = nI wb
    · rw [if_pos c, if_pos c]
      exact next m σ τ hL (by omega)
    · rw [if_neg c, if_neg c]
      by_cases c1 : sb ≤ wa
      · simp only [if_pos c1]
        by_cases c2 : sa ≤ wb
        · simp only [if_pos c2]
          exact next m σ τ hL (by omega)
        · simp only [if_neg c2]
          exact next m σ τ hL (by omega)
      · simp only [if_neg c1]
        by_cases c2 : sa ≤ wb
        · simp only [if_pos c2]
          exact next m σ τ hL (by omega)
        · simp only [if_neg c2]
          have hok : bstOk p n (aft p 1 a b 0) := by
            show bstOk p n (upd (upd (p 1) a (p 1 b)) b (p 1 a))
            refine ok_upd (ok_upd (ok_base hv) (fun s' e' h' => ⟨wb, ?_, hwb1⟩)) (fun s' e' h' => ⟨wa, ?_, hwa1⟩)
            · have := nI_inj (by omega) (by omega) (hsa.symm.trans e'); omega
            · have := nI_inj (by omega) (by omega) (hsb.symm.trans e'); omega
          obtain ⟨σ1, τ1, e1, e2, hL1⟩ := put_step (cI := -1) (c := 0) hv hL (by omega) (kd := 1) (a := a) (b := b) ⟨by omega, ha, fun h => absurd h (by decide), fun _ => by omega, fun h => absurd h (by decide), fun h => absurd h (by decide)⟩ (fun h => absurd h (by decide)) hok
          have e1' : fX3_put σ 1 (nI a) (nI b) (-1) = some σ1 := e1
          have e2' : fX10_lists τ 1 (nI a) (nI b) (-1) = some τ1 := e2
          rw [if_neg (by decide), if_neg (by decide), if_neg (by decide), if_neg (by decide), e1', e2', bv_some, bv_some]
          exact next (m + 1) σ1 τ1 hL1 (by omega)
theorem swaps_out {p : Nat → Nat → Int32} {n k it : Nat} {U : Nat → Nat → Nat} {bc kI : Int32} (hv : vld p n k) (hk : hb kI 1 = true) : ∀ (j a : Nat), a + j = n → ∀ N N', j < N → j < N' → ∀ m σ τ, LSt p n k U it bc kI m σ τ → m ≤ 70 + sw a → ∃ m' σ' τ', fX3_putSwaps_L2 N σ (nI a) = some σ' ∧ fX10_findMoves_L39 N' τ (nI a) = fX10_findMoves_L69 τ' ∧ LSt p n k U it bc kI m' σ' τ' ∧ m' ≤ 115 := by
  have hn := hv.1
  intro j
  induction j with
  | zero =>
    intro a ha N N' hN hN' m σ τ hL hm
    obtain ⟨N, rfl, hN⟩ := nsub1 hN
    obtain ⟨N', rfl, hN'⟩ := nsub1 hN'
    have e : a = n := by omega
    subst e
    have := sw_le a hn
    refine ⟨m, σ, τ, ?_, ?_, hL, by omega⟩
    · rw [show fX3_putSwaps_L2 (N + 1) = fX3_putSwaps_B2 (fX3_putSwaps_L2 N) from rfl]
      unfold fX3_putSwaps_B2
      rw [hL.1.1, if_pos ((le_i (by omega) (by omega)).2 (Nat.le_refl _))]
    · rw [show fX10_findMoves_L39 (N' + 1) = fX10_findMoves_B39 (fX10_findMoves_L39 N') from rfl]
      unfold fX10_findMoves_B39
      rw [hL.2.1.1.1.1, if_pos ((le_i (by omega) (by omega)).2 (Nat.le_refl _))]
  | succ j ih =>
    intro a ha N N' hN hN' m σ τ hL hm
    obtain ⟨N, rfl, hN⟩ := nsub1 hN
    obtain ⟨N', rfl, hN'⟩ := nsub1 hN'
    obtain ⟨m1, σ1, τ1, e1, e2, hL1, hm1⟩ := swaps_in hv (show a < n by omega) (fX3_putSwaps_L2 N) (n - (a + 1)) (a + 1) (by omega) (by omega) FU FU (FU_lt (by omega)) (FU_lt (by omega)) m σ τ hL (by omega)
    obtain ⟨m2, σ2, τ2, e3, e4, hL2, hm2⟩ := ih (a + 1) (by omega) N N' (by omega) (by omega) m1 σ1 τ1 hL1 hm1
    refine ⟨m2, σ2, τ2, ?_, ?_, hL2, hm2⟩
    · rw [show fX3_putSwaps_L2 (N + 1) = fX3_putSwaps_B2 (fX3_putSwaps_L2 N) from rfl]
      unfold fX3_putSwaps_B2
      rw [hL.1.1, if_neg (fun h => absurd ((le_i (by omega) (by omega)).1 h) (by omega)), ← e3, ← e1, nI_s]
    · have eL : fX10_listsSwaps τ (nI a) = some τ1 := by
        unfold fX10_listsSwaps
        rw [nI_s]
        exact e2
      rw [show fX10_findMoves_L39 (N' + 1) = fX10_findMoves_B39 (fX10_findMoves_L39 N') from rfl]
      unfold fX10_findMoves_B39
      rw [hL.2.1.1.1.1, if_neg (fun h => absurd ((le_i (by omega) (by omega)).1 h) (by omega)), hL.2.1.2.2.2.2.2, (show fX10_has τ kI 1 = some (1, τ) from has_t τ hk), bd_some, if_neg (by decide), eL, bv_some, nI_s, e4]
theorem shifts_out {p : Nat → Nat → Int32} {n k it : Nat} {U : Nat → Nat → Nat} {bc kI : Int32} (hv : vld p n k) (hk : hb kI 2 = true) : ∀ (j a : Nat), a + j = n → ∀ N N', j < N → j < N' → ∀ m σ τ, LSt p n k U it bc kI m σ τ → m ≤ 115 + 2 * a → ∃ m' σ' τ', fX3_putShifts_L2 N σ (nI a) = some σ' ∧ fX10_findMoves_L71 N' τ (nI a) = fX10_findMoves_L112 τ' ∧ LSt p n k U it bc kI m' σ' τ' ∧ m' ≤ 135 := by
  have hn := hv.1
  intro j
  induction j with
  | zero =>
    intro a ha N N' hN hN' m σ τ hL hm
    obtain ⟨N, rfl, hN⟩ := nsub1 hN
    obtain ⟨N', rfl, hN'⟩ := nsub1 hN'
    have e : a = n := by omega
    subst e
    refine ⟨m, σ, τ, ?_, ?_, hL, by omega⟩
    · rw [show fX3_putShifts_L2 (N + 1) = fX3_putShifts_B2 (fX3_putShifts_L2 N) from rfl]
      unfold fX3_putShifts_B2
      rw [hL.1.1, if_pos ((le_i (by omega) (by omega)).2 (Nat.le_refl _))]
    · rw [show fX10_findMoves_L71 (N' + 1) = fX10_findMoves_B71 (fX10_findMoves_L71 N') from rfl]
      unfold fX10_findMoves_B71
      rw [hL.2.1.1.1.1, if_pos ((le_i (by omega) (by omega)).2 (Nat.le_refl _))]
  | succ j ih =>
    intro a ha N N' hN hN' m σ τ hL hm
    obtain ⟨N, rfl, hN⟩ := nsub1 hN
    obtain ⟨N', rfl, hN'⟩ := nsub1 hN'
    obtain ⟨s, w, h2, h8, hw, hs, hw1⟩ := sz_of hv (show a < n by omega)
    obtain ⟨k1, k0⟩ := shi_ok s h8 w hw
    have hok : ∀ b, b ≤ 1 → bstOk p n (aft p 2 a b 0) := fun b hb => by
      show bstOk p n (upd (p 1) a (shI (p 1 a) (p 0 a) (nI b)))
      refine ok_upd (ok_base hv) (fun s' e' h' => ?_)
      have es := nI_inj (by omega) (by omega) (hs.symm.trans e')
      rw [hs, hw1, ← es]
      have : b = 0 ∨ b = 1 := by omega
      rcases this with rfl | rfl
      · exact k0
      · exact k1
    obtain ⟨σ1, τ1, e1, e2, hL1⟩ := put_step (cI := -1) (c := 0) hv hL (by omega) (kd := 2) (a := a) (b := 0) ⟨by omega, by omega, fun h => absurd h (by decide), fun h => absurd h (by decide), fun _ => by omega, fun h => absurd h (by decide)⟩ (fun h => absurd h (by decide)) (hok 0 (by omega))
    obtain ⟨σ2, τ2, e3, e4, hL2⟩ := put_step (cI := -1) (c := 0) hv hL1 (by omega) (kd := 2) (a := a) (b := 1) ⟨by omega, by omega, fun h => absurd h (by decide), fun h => absurd h (by decide), fun _ => by omega, fun h => absurd h (by decide)⟩ (fun h => absurd h (by decide)) (hok 1 (by omega))
    obtain ⟨m3, σ3, τ3, e5, e6, hL3, hm3⟩ := ih (a + 1) (by omega) N N' (by omega) (by omega) (m + 1 + 1) σ2 τ2 hL2 (by omega)
    have e1' : fX3_put σ 2 (nI a) 0 (-1) = some σ1 := e1
    have e2' : fX10_lists τ 2 (nI a) 0 (-1) = some τ1 := e2
    have e3' : fX3_put σ1 2 (nI a) 1 (-1) = some σ2 := e3
    have e4' : fX10_lists τ1 2 (nI a) 1 (-1) = some τ2 := e4
    have hk2 : fX10_has τ kI 2 = some (1, τ) := has_t τ hk
    refine ⟨m3, σ3, τ3, ?_, ?_, hL3, hm3⟩
    · rw [show fX3_putShifts_L2 (N + 1) = fX3_putShifts_B2 (fX3_putShifts_L2 N) from rfl]
      unfold fX3_putShifts_B2
      rw [hL.1.1, if_neg (fun h => absurd ((le_i (by omega) (by omega)).1 h) (by omega)), e1', bv_some, e3', bv_some, nI_s, e5]
    · rw [show fX10_findMoves_L71 (N' + 1) = fX10_findMoves_B71 (fX10_findMoves_L71 N') from rfl]
      unfold fX10_findMoves_B71
      rw [hL.2.1.1.1.1, if_neg (fun h => absurd ((le_i (by omega) (by omega)).1 h) (by omega)), hL.2.1.2.2.2.2.2, hk2, bd_some, if_neg (by decide), e2', bv_some, e4', bv_some, nI_s, e6]
