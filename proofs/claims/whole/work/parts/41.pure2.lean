/-! PURE, 2: pairs; the reference's way to the same numbers -/
def sml (x : Int32) : Prop := ∃ k : Nat, k < 8 ∧ x = nI k
theorem xabs_eq {x p : Int32} (hx : sml x) (hp : sml p) : (if 0 ≤ x - p then x - p else 0 - (x - p)) = iabs x p := by
  obtain ⟨a, ha, rfl⟩ := hx
  obtain ⟨b, hb, rfl⟩ := hp
  have key : ∀ a, a < 8 → ∀ b, b < 8 → (if 0 ≤ nI a - nI b then nI a - nI b else 0 - (nI a - nI b)) = iabs (nI a) (nI b) := by decide +kernel
  exact key a ha b hb
theorem getD_mem {L : List Int32} {i : Nat} (h : i < L.length) : L.getD i 0 ∈ L := by
  rw [List.getD_eq_getElem?_getD, List.getElem?_eq_getElem h]
  exact List.getElem_mem h
theorem cp_inner (σ : Mem) (d : Int32) (L : List Int32) (hL : agr (σ 8) L) (h10 : L.length ≤ 10) (hs : ∀ x ∈ L, sml x) (r5 : Mem → Int32 → Int32 → Int32 → Int32 → Option (Int32 × Mem)) (i : Nat) (hi : i < L.length) (s0 : Int32) : ∀ (k j : Nat), j + k = i → ∀ N, k < N → fX4_closePairs_L14 r5 N σ (nI L.length) d (cntL d (L.getD i 0) (L.take j) s0) (nI i) (nI j) = r5 σ (nI L.length) d (cntL d (L.getD i 0) (L.take i) s0) (nI (i + 1)) := by
  intro k
  induction k with
  | zero =>
    intro j hj N hN
    obtain ⟨N, rfl, hN⟩ := nsub1 hN
    have e : j = i := by omega
    subst e
    show fX4_closePairs_B14 r5 (fX4_closePairs_L14 r5 N) _ _ _ _ _ _ = _
    unfold fX4_closePairs_B14
    rw [if_pos ((le_i (by omega) (by omega)).mpr (Nat.le_refl _)), nI_s]
  | succ k ih =>
    intro j hj N hN
    obtain ⟨N, rfl, hN⟩ := nsub1 hN
    have hz := ih (j + 1) (by omega) N (by omega)
    rw [take_push L j (by omega), cntL_push] at hz
    show fX4_closePairs_B14 r5 (fX4_closePairs_L14 r5 N) _ _ _ _ _ _ = _
    unfold fX4_closePairs_B14 fX4_closePairs_L46
    rw [if_neg (fun h => absurd ((le_i (by omega) (by omega)).mp h) (by omega)), ck_i (by omega) (by omega), ck_i (by omega) (by omega), cl_i (by omega), cl_i (by omega), nI_s, hL i (by omega), hL j (by omega), xabs_eq (hs _ (getD_mem hi)) (hs _ (getD_mem (by omega)))]
    by_cases c : iabs (L.getD i 0) (L.getD j 0) < d
    · rw [if_pos c] at hz
      rw [if_neg (fun h => absurd c (Int32.not_lt.mpr h))]
      exact hz
    · rw [if_neg c] at hz
      rw [if_pos (Int32.not_lt.mp c)]
      exact hz
theorem cp_outer (σ : Mem) (d : Int32) (L : List Int32) (hL : agr (σ 8) L) (h10 : L.length ≤ 10) (hs : ∀ x ∈ L, sml x) : ∀ (k i : Nat), i + k = L.length → ∀ N, k < N → fX4_closePairs_L5 N σ (nI L.length) d (prsL d (L.take i)) (nI i) = some (prsL d L, σ) := by
  intro k
  induction k with
  | zero =>
    intro i hi N hN
    obtain ⟨N, rfl, hN⟩ := nsub1 hN
    have e : i = L.length := by omega
    subst e
    show fX4_closePairs_B5 (fX4_closePairs_L5 N) _ _ _ _ _ = _
    unfold fX4_closePairs_B5
    rw [if_pos ((le_i (by omega) (by omega)).mpr (Nat.le_refl _)), List.take_length]
  | succ k ih =>
    intro i hi N hN
    obtain ⟨N, rfl, hN⟩ := nsub1 hN
    have hz := ih (i + 1) (by omega) N (by omega)
    rw [take_push L i (by omega), prsL_push] at hz
    show fX4_closePairs_B5 (fX4_closePairs_L5 N) _ _ _ _ _ = _
    unfold fX4_closePairs_B5
    rw [if_neg (fun h => absurd ((le_i (by omega) (by omega)).mp h) (by omega))]
    have h2 := cp_inner σ d L hL h10 hs (fX4_closePairs_L5 N) i (by omega) (prsL d (L.take i)) i 0 (by omega) FU (FU_lt (by omega))
    exact h2.trans hz
theorem cp_eq (σ : Mem) (d : Int32) (L : List Int32) (hL : agr (σ 8) L) (h10 : L.length ≤ 10) (hs : ∀ x ∈ L, sml x) : fX4_closePairs σ (nI L.length) d = some (prsL d L, σ) := by
  unfold fX4_closePairs
  rcases Nat.eq_zero_or_pos L.length with h0 | h0
  · have e : L = [] := List.length_eq_zero_iff.mp h0
    subst e
    obtain ⟨N9, hN9⟩ : ∃ N9, FU = N9 + 1 := ⟨4194303, rfl⟩
    rw [hN9, show fX4_closePairs_L5 (N9 + 1) = fX4_closePairs_B5 (fX4_closePairs_L5 N9) from rfl]
    unfold fX4_closePairs_B5
    rw [if_pos (by decide)]
    rfl
  · have := cp_outer σ d L hL h10 hs (L.length - 1) 1 (by omega) FU (FU_lt (by omega))
    rw [take_push L 0 h0] at this
    exact this
-- the reference
theorem sumOf_loop (q : Nat) (σ : Mem) (c n : Nat) (hc : c < 20) (hn : n ≤ 10) (h7 : σ 124 7 = nI n) : ∀ (j v : Nat), v + j = n → ∀ N, j < N → fX10_sumOf_L6 q N σ (nI c) 0 (sumL (mlist (σ 128 c) (σ q) v)) (nI v) = some (sumL (mlist (σ 128 c) (σ q) n), σ) := by
  intro j
  induction j with
  | zero =>
    intro v hv N hN
    obtain ⟨N, rfl, hN⟩ := nsub1 hN
    have e : v = n := by omega
    subst e
    show fX10_sumOf_B6 q (fX10_sumOf_L6 q N) _ _ _ _ _ = _
    unfold fX10_sumOf_B6
    rw [h7, if_pos ((le_i (by omega) (by omega)).mpr (Nat.le_refl _))]
  | succ j ih =>
    intro v hv N hN
    obtain ⟨N, rfl, hN⟩ := nsub1 hN
    have hz := ih (v + 1) (by omega) N (by omega)
    show fX10_sumOf_B6 q (fX10_sumOf_L6 q N) _ _ _ _ _ = _
    unfold fX10_sumOf_B6 fX10_sumOf_L58
    rw [h7, if_neg (fun h => absurd ((le_i (by omega) (by omega)).mp h) (by omega)), ck_i hc (by omega), cl_i (by omega)]
    cases h : hb (σ 128 c) v with
    | true =>
      rw [mlist_t _ h, sumL_push] at hz
      rw [has_t σ h, bd_some, if_neg (by decide), if_pos rfl, ck_i (by omega) (by omega), cl_i (by omega), nI_s]
      exact hz
    | false =>
      rw [mlist_f _ h] at hz
      rw [has_f σ h, bd_some, if_pos rfl, Int32.add_zero, nI_s]
      exact hz
theorem sumOf_eq (q : Nat) (σ : Mem) (c n : Nat) (hc : c < 20) (hn : n ≤ 10) (h7 : σ 124 7 = nI n) : fX10_sumOf q σ (nI c) 0 = some (sumL (mlist (σ 128 c) (σ q) n), σ) :=
  sumOf_loop q σ c n hc hn h7 n 0 (by omega) FU (FU_lt (by omega))
theorem zerOf_loop (q : Nat) (σ : Mem) (c n : Nat) (hc : c < 20) (hn : n ≤ 10) (h7 : σ 124 7 = nI n) : ∀ (j v : Nat), v + j = n → ∀ N, j < N → fX10_sumOf_L6 q N σ (nI c) 1 (zerL (mlist (σ 128 c) (σ q) v)) (nI v) = some (zerL (mlist (σ 128 c) (σ q) n), σ) := by
  intro j
  induction j with
  | zero =>
    intro v hv N hN
    obtain ⟨N, rfl, hN⟩ := nsub1 hN
    have e : v = n := by omega
    subst e
    show fX10_sumOf_B6 q (fX10_sumOf_L6 q N) _ _ _ _ _ = _
    unfold fX10_sumOf_B6
    rw [h7, if_pos ((le_i (by omega) (by omega)).mpr (Nat.le_refl _))]
  | succ j ih =>
    intro v hv N hN
    obtain ⟨N, rfl, hN⟩ := nsub1 hN
    have hz := ih (v + 1) (by omega) N (by omega)
    show fX10_sumOf_B6 q (fX10_sumOf_L6 q N) _ _ _ _ _ = _
    unfold fX10_sumOf_B6 fX10_sumOf_L58
    rw [h7, if_neg (fun h => absurd ((le_i (by omega) (by omega)).mp h) (by omega)), ck_i hc (by omega), cl_i (by omega)]
    cases h : hb (σ 128 c) v with
    | true =>
      rw [mlist_t _ h, zerL_push] at hz
      rw [has_t σ h, bd_some, if_neg (by decide), if_neg (by decide), ck_i (by omega) (by omega), cl_i (by omega), nI_s]
      by_cases c0 : σ q v = 0
      · rw [if_pos c0]; rw [if_pos c0] at hz; exact hz
      · rw [if_neg c0, Int32.add_zero]; rw [if_neg c0] at hz; exact hz
    | false =>
      rw [mlist_f _ h] at hz
      rw [has_f σ h, bd_some, if_pos rfl, Int32.add_zero, nI_s]
      exact hz
theorem zerOf_eq (q : Nat) (σ : Mem) (c n : Nat) (hc : c < 20) (hn : n ≤ 10) (h7 : σ 124 7 = nI n) : fX10_sumOf q σ (nI c) 1 = some (zerL (mlist (σ 128 c) (σ q) n), σ) :=
  zerOf_loop q σ c n hc hn h7 n 0 (by omega) FU (FU_lt (by omega))
def befOf (m : Int32) (row : Nat → Int32) (v : Nat) (b : Int32) : Prop := (mlist m row v = [] ∧ b = -1) ∨ ∃ (w : Nat) (P : List Int32), w < v ∧ mlist m row v = P ++ [row w] ∧ b = nI w
theorem nasc_loop (q : Nat) (σ : Mem) (c n : Nat) (hc : c < 20) (hn : n ≤ 10) (h7 : σ 124 7 = nI n) : ∀ (j v : Nat), v + j = n → ∀ N, j < N → ∀ b, befOf (σ 128 c) (σ q) v b → fX10_notAscending_L8 q N σ (nI c) (dscL (σ 129 c) (mlist (σ 128 c) (σ q) v)) b (nI v) = some (dscL (σ 129 c) (mlist (σ 128 c) (σ q) n), σ) := by
  intro j
  induction j with
  | zero =>
    intro v hv N hN b hbf
    obtain ⟨N, rfl, hN⟩ := nsub1 hN
    have e : v = n := by omega
    subst e
    show fX10_notAscending_B8 q (fX10_notAscending_L8 q N) _ _ _ _ _ = _
    unfold fX10_notAscending_B8
    rw [h7, if_pos ((le_i (by omega) (by omega)).mpr (Nat.le_refl _))]
  | succ j ih =>
    intro v hv N hN b hbf
    obtain ⟨N, rfl, hN⟩ := nsub1 hN
    show fX10_notAscending_B8 q (fX10_notAscending_L8 q N) _ _ _ _ _ = _
    unfold fX10_notAscending_B8 fX10_notAscending_L69 fX10_notAscending_L62 fX10_notAscending_L63 fX10_notAscending_L69
    rw [h7, if_neg (fun h => absurd ((le_i (by omega) (by omega)).mp h) (by omega)), ck_i hc (by omega), cl_i (by omega)]
    cases h : hb (σ 128 c) v with
    | true =>
      have hz := ih (v + 1) (by omega) N (by omega) (nI v) (Or.inr ⟨v, _, Nat.lt_succ_self v, mlist_t _ h, rfl⟩)
      rw [mlist_t _ h] at hz
      rw [has_t σ h, bd_some, if_neg (by decide)]
      rcases hbf with ⟨he, rfl⟩ | ⟨w, P, hw, he, rfl⟩
      · rw [he] at hz ⊢
        rw [if_pos (by decide), Int32.add_zero, nI_s]
        exact hz
      · rw [he, dscL_push2] at hz
        rw [he, if_neg (nI_pos (by omega)), ck_i (by omega) (by omega), ck_i hc (by omega), ck_i (by omega) (by omega), cl_i (by omega), cl_i (by omega), nI_s]
        by_cases c0 : σ 129 c + σ q w ≤ σ q v
        · rw [if_pos c0, Int32.add_zero]; rw [if_pos c0] at hz; exact hz
        · rw [if_neg c0]; rw [if_neg c0] at hz; exact hz
    | false =>
      have hz := ih (v + 1) (by omega) N (by omega) b (by
        rcases hbf with ⟨he, rfl⟩ | ⟨w, P, hw, he, rfl⟩
        · exact Or.inl ⟨by rw [mlist_f _ h]; exact he, rfl⟩
        · exact Or.inr ⟨w, P, by omega, by rw [mlist_f _ h]; exact he, rfl⟩)
      rw [mlist_f _ h] at hz
      rw [has_f σ h, bd_some, if_pos rfl, nI_s]
      exact hz
theorem nasc_eq (q : Nat) (σ : Mem) (c n : Nat) (hc : c < 20) (hn : n ≤ 10) (h7 : σ 124 7 = nI n) : fX10_notAscending q σ (nI c) = some (dscL (σ 129 c) (mlist (σ 128 c) (σ q) n), σ) :=
  nasc_loop q σ c n hc hn h7 n 0 (by omega) FU (FU_lt (by omega)) (-1) (Or.inl ⟨rfl, rfl⟩)
theorem near_inner (q : Nat) (σ : Mem) (c n v : Nat) (hc : c < 20) (hn : n ≤ 10) (hv : v < n) (hbv : hb (σ 128 c) v = true) (s0 : Int32) (r5 : Mem → Int32 → Int32 → Int32 → Option (Int32 × Mem)) : ∀ (j w : Nat), w + j = v → ∀ N, j < N → fX10_pairsNear_L17 q r5 N σ (nI c) (cntL (σ 129 c) (σ q v) (mlist (σ 128 c) (σ q) w) s0) (nI v) (nI w) = r5 σ (nI c) (cntL (σ 129 c) (σ q v) (mlist (σ 128 c) (σ q) v) s0) (nI (v + 1)) := by
  intro j
  induction j with
  | zero =>
    intro w hw N hN
    obtain ⟨N, rfl, hN⟩ := nsub1 hN
    have e : w = v := by omega
    subst e
    show fX10_pairsNear_B17 q r5 (fX10_pairsNear_L17 q r5 N) _ _ _ _ _ = _
    unfold fX10_pairsNear_B17 fX10_pairsNear_L111
    rw [if_pos ((le_i (by omega) (by omega)).mpr (Nat.le_refl _)), nI_s]
  | succ j ih =>
    intro w hw N hN
    obtain ⟨N, rfl, hN⟩ := nsub1 hN
    have hz := ih (w + 1) (by omega) N (by omega)
    show fX10_pairsNear_B17 q r5 (fX10_pairsNear_L17 q r5 N) _ _ _ _ _ = _
    unfold fX10_pairsNear_B17 fX10_pairsNear_L111 fX10_pairsNear_L70 fX10_pairsNear_L102 fX10_pairsNear_L103
    rw [if_neg (fun h => absurd ((le_i (by omega) (by omega)).mp h) (by omega)), ck_i hc (by omega), cl_i (by omega), has_t σ hbv, bd_some, if_neg (by decide)]
    simp only [ck_i (show v < 10 by omega) (show 10 ≤ 1000000 by omega), ck_i (show w < 10 by omega) (show 10 ≤ 1000000 by omega), ck_i hc (show 20 ≤ 1000000 by omega), cl_i (show v ≤ 1000000 by omega), cl_i (show w ≤ 1000000 by omega), cl_i (show c ≤ 1000000 by omega), nI_s]
    have hi : ∀ (A : Int32 → Option (Int32 × Mem)), (if σ q w ≤ σ q v then A (σ q v - σ q w) else A (σ q w - σ q v)) = A (iabs (σ q v) (σ q w)) := by
      intro A
      unfold iabs
      by_cases c0 : σ q w ≤ σ q v
      · rw [if_pos c0, if_pos c0]
      · rw [if_neg c0, if_neg c0]
    rw [hi (fun a => bd (fX10_has σ (σ 128 c) (nI w)) fun v3 σ3 => if v3 = 0 then fX10_pairsNear_L17 q r5 N σ3 (nI c) (cntL (σ 129 c) (σ q v) (mlist (σ 128 c) (σ q) w) s0 + 0) (nI v) (nI (w + 1)) else if σ3 129 c ≤ a then fX10_pairsNear_L17 q r5 N σ3 (nI c) (cntL (σ 129 c) (σ q v) (mlist (σ 128 c) (σ q) w) s0 + 0) (nI v) (nI (w + 1)) else fX10_pairsNear_L17 q r5 N σ3 (nI c) (cntL (σ 129 c) (σ q v) (mlist (σ 128 c) (σ q) w) s0 + 1) (nI v) (nI (w + 1)))]
    cases h : hb (σ 128 c) w with
    | true =>
      rw [mlist_t _ h, cntL_push] at hz
      rw [has_t σ h, bd_some, if_neg (by decide)]
      by_cases c0 : iabs (σ q v) (σ q w) < σ 129 c
      · rw [if_pos c0] at hz
        rw [if_neg (fun h => absurd c0 (Int32.not_lt.mpr h))]
        exact hz
      · rw [if_neg c0] at hz
        rw [if_pos (Int32.not_lt.mp c0), Int32.add_zero]
        exact hz
    | false =>
      rw [mlist_f _ h] at hz
      rw [has_f σ h, bd_some, if_pos rfl, Int32.add_zero]
      exact hz
theorem near_outer (q : Nat) (σ : Mem) (c n : Nat) (hc : c < 20) (hn : n ≤ 10) (h7 : σ 124 7 = nI n) : ∀ (j v : Nat), v + j = n → ∀ N, j < N → fX10_pairsNear_L5 q N σ (nI c) (prsL (σ 129 c) (mlist (σ 128 c) (σ q) v)) (nI v) = some (prsL (σ 129 c) (mlist (σ 128 c) (σ q) n), σ) := by
  intro j
  induction j with
  | zero =>
    intro v hv N hN
    obtain ⟨N, rfl, hN⟩ := nsub1 hN
    have e : v = n := by omega
    subst e
    show fX10_pairsNear_B5 q (fX10_pairsNear_L5 q N) _ _ _ _ = _
    unfold fX10_pairsNear_B5
    rw [h7, if_pos ((le_i (by omega) (by omega)).mpr (Nat.le_refl _))]
  | succ j ih =>
    intro v hv N hN
    obtain ⟨N, rfl, hN⟩ := nsub1 hN
    have hz := ih (v + 1) (by omega) N (by omega)
    show fX10_pairsNear_B5 q (fX10_pairsNear_L5 q N) _ _ _ _ = _
    unfold fX10_pairsNear_B5
    rw [h7, if_neg (fun h => absurd ((le_i (by omega) (by omega)).mp h) (by omega))]
    cases h : hb (σ 128 c) v with
    | true =>
      rw [mlist_t _ h, prsL_push] at hz
      exact (near_inner q σ c n v hc hn (by omega) h (prsL (σ 129 c) (mlist (σ 128 c) (σ q) v)) (fX10_pairsNear_L5 q N) v 0 (by omega) FU (FU_lt (by omega))).trans hz
    | false =>
      rw [mlist_f _ h] at hz
      rw [← hz]
      obtain ⟨N9, hN9⟩ : ∃ N9, FU = N9 + 1 := ⟨4194303, rfl⟩
      rw [hN9, show fX10_pairsNear_L17 q (fX10_pairsNear_L5 q N) (N9 + 1) = fX10_pairsNear_B17 q (fX10_pairsNear_L5 q N) (fX10_pairsNear_L17 q (fX10_pairsNear_L5 q N) N9) from rfl]
      unfold fX10_pairsNear_B17 fX10_pairsNear_L111
      by_cases h0 : v = 0
      · subst h0
        rw [if_pos (by decide), nI_s]
      · rw [if_neg (show ¬ nI v ≤ (0 : Int32) from fun h => absurd ((le_i (a := v) (b := 0) (by omega) (by omega)).mp h) (by omega)), ck_i hc (by omega), cl_i (by omega), has_f σ h, bd_some, if_pos rfl, nI_s]
theorem near_eq (q : Nat) (σ : Mem) (c n : Nat) (hc : c < 20) (hn : n ≤ 10) (h7 : σ 124 7 = nI n) : fX10_pairsNear q σ (nI c) = some (prsL (σ 129 c) (mlist (σ 128 c) (σ q) n), σ) :=
  near_outer q σ c n hc hn h7 n 0 (by omega) FU (FU_lt (by omega))
-- pairs of the same value by counting
theorem cntL_add (d x : Int32) (P : List Int32) (s : Int32) : cntL d x P s = s + cntL d x P 0 := by
  have key : ∀ (P : List Int32) (s t : Int32), P.foldl (fun s p => if iabs x p < d then s + 1 else s) (s + t) = s + P.foldl (fun s p => if iabs x p < d then s + 1 else s) t := by
    intro P
    induction P with
    | nil => intro s t; rfl
    | cons p P ih =>
      intro s t
      show P.foldl _ (if iabs x p < d then s + t + 1 else s + t) = s + P.foldl _ (if iabs x p < d then t + 1 else t)
      by_cases c : iabs x p < d
      · rw [if_pos c, if_pos c, Int32.add_assoc, ih]
      · rw [if_neg c, if_neg c, ih]
  have := key P s 0
  rw [Int32.add_zero] at this
  exact this
def manyOf (σ : Mem) (P : List Int32) : Prop := ∀ k : Nat, k < 8 → σ 131 k = cntL 1 (nI k) P 0
theorem iabs1 {a b : Nat} (ha : a < 8) (hb : b < 8) : (iabs (nI a) (nI b) < 1) ↔ a = b := by
  have key : ∀ a, a < 8 → ∀ b, b < 8 → (iabs (nI a) (nI b) < 1 ↔ a = b) := by decide +kernel
  exact key a ha b hb
theorem zero_loop (q : Nat) (σ : Mem) (c : Int32) : ∀ (j k : Nat), k + j = 8 → ∀ N, j < N → ∀ f, (∀ i, i < k → f i = 0) → ∃ f', (∀ i, i < 8 → f' i = 0) ∧ fX10_pairsAlike_L2 q N (mw σ 131 f) c (nI k) = fX10_pairsAlike_L26 q FU (mw σ 131 f') c 0 0 := by
  intro j
  induction j with
  | zero =>
    intro k hk N hN f hf
    obtain ⟨N, rfl, hN⟩ := nsub1 hN
    have e : k = 8 := by omega
    subst e
    refine ⟨f, hf, ?_⟩
    rw [show fX10_pairsAlike_L2 q (N + 1) = fX10_pairsAlike_B2 q (fX10_pairsAlike_L2 q N) from rfl]
    unfold fX10_pairsAlike_B2
    rw [if_pos (by decide)]
  | succ j ih =>
    intro k hk N hN f hf
    obtain ⟨N, rfl, hN⟩ := nsub1 hN
    obtain ⟨f', h1, h2⟩ := ih (k + 1) (by omega) N (by omega) (upd f k 0) (fun i hi => by
      unfold upd
      by_cases e : i = k
      · rw [if_pos e]
      · rw [if_neg e]; exact hf i (by omega))
    refine ⟨f', h1, ?_⟩
    rw [show fX10_pairsAlike_L2 q (N + 1) = fX10_pairsAlike_B2 q (fX10_pairsAlike_L2 q N) from rfl]
    unfold fX10_pairsAlike_B2 lt
    rw [if_neg (show ¬ (8 : Int32) ≤ nI k from fun h => absurd ((le_i (a := 8) (b := k) (by omega) (by omega)).mp h) (by omega)), ck_i (by omega) (by omega), cl_i (by omega), mst_mw, nI_s]
    exact h2
theorem alike_loop (q : Nat) (hq : q ≠ 131) (σ : Mem) (c n : Nat) (hc : c < 20) (hn : n ≤ 10) (h7 : σ 124 7 = nI n) (hs : ∀ v, v < n → sml (σ q v)) : ∀ (j v : Nat), v + j = n → ∀ N, j < N → ∀ f, manyOf (mw σ 131 f) (mlist (σ 128 c) (σ q) v) → ∃ f', fX10_pairsAlike_L26 q N (mw σ 131 f) (nI c) (prsL 1 (mlist (σ 128 c) (σ q) v)) (nI v) = some (prsL 1 (mlist (σ 128 c) (σ q) n), mw σ 131 f') := by
  intro j
  induction j with
  | zero =>
    intro v hv N hN f hf
    obtain ⟨N, rfl, hN⟩ := nsub1 hN
    have e : v = n := by omega
    subst e
    refine ⟨f, ?_⟩
    show fX10_pairsAlike_B26 q (fX10_pairsAlike_L26 q N) _ _ _ _ = _
    unfold fX10_pairsAlike_B26
    rw [mw_ne σ f (show (124 : Nat) ≠ 131 by decide), h7, if_pos ((le_i (by omega) (by omega)).mpr (Nat.le_refl _))]
  | succ j ih =>
    intro v hv N hN f hf
    obtain ⟨N, rfl, hN⟩ := nsub1 hN
    obtain ⟨k, hk, hkv⟩ := hs v (by omega)
    cases h : hb (σ 128 c) v with
    | true =>
      obtain ⟨f', hz⟩ := ih (v + 1) (by omega) N (by omega) (upd f k (f k + 1)) (fun k2 hk2 => by
        rw [mw_at, mlist_t _ h, cntL_push, hkv]
        have h0 := hf k2 hk2
        rw [mw_at] at h0
        unfold upd
        by_cases e : k2 = k
        · subst e
          rw [if_pos rfl, if_pos ((iabs1 hk2 hk).mpr rfl), h0]
        · rw [if_neg e, if_neg (fun z => e ((iabs1 hk2 hk).mp z)), h0])
      refine ⟨f', ?_⟩
      have hfk : f k = cntL 1 (nI k) (mlist (σ 128 c) (σ q) v) 0 := by have := hf k hk; rwa [mw_at] at this
      rw [mlist_t _ h, prsL_push, cntL_add, hkv, ← hfk] at hz
      show fX10_pairsAlike_B26 q (fX10_pairsAlike_L26 q N) _ _ _ _ = _
      unfold fX10_pairsAlike_B26 fX10_pairsAlike_L77 lt li
      rw [mw_ne σ f (show (124 : Nat) ≠ 131 by decide), h7, if_neg (fun h => absurd ((le_i (by omega) (by omega)).mp h) (by omega)), ck_i hc (by omega), cl_i (by omega), mw_ne σ f (show (128 : Nat) ≠ 131 by decide), has_t _ h, bd_some, if_neg (by decide)]
      simp only [mw_ne σ f hq, mw_at, mst_mw, ck_i (show v < 10 by omega) (show 10 ≤ 1000000 by omega), cl_i (show v ≤ 1000000 by omega), hkv, ck_i hk (show 8 ≤ 1000000 by omega), cl_i (show k ≤ 1000000 by omega), nI_s]
      exact hz
    | false =>
      obtain ⟨f', hz⟩ := ih (v + 1) (by omega) N (by omega) f (by rw [mlist_f _ h]; exact hf)
      refine ⟨f', ?_⟩
      rw [mlist_f _ h] at hz
      show fX10_pairsAlike_B26 q (fX10_pairsAlike_L26 q N) _ _ _ _ = _
      unfold fX10_pairsAlike_B26 fX10_pairsAlike_L77
      rw [mw_ne σ f (show (124 : Nat) ≠ 131 by decide), h7, if_neg (fun h => absurd ((le_i (by omega) (by omega)).mp h) (by omega)), ck_i hc (by omega), cl_i (by omega), mw_ne σ f (show (128 : Nat) ≠ 131 by decide), has_f _ h, bd_some, if_pos rfl, nI_s]
      exact hz
theorem alike_eq (q : Nat) (hq : q ≠ 131) (σ : Mem) (c n : Nat) (hc : c < 20) (hn : n ≤ 10) (h7 : σ 124 7 = nI n) (hs : ∀ v, v < n → sml (σ q v)) : ∃ f', fX10_pairsAlike q σ (nI c) = some (prsL 1 (mlist (σ 128 c) (σ q) n), mw σ 131 f') := by
  obtain ⟨f1, h1, h2⟩ := zero_loop q σ (nI c) 8 0 (by omega) FU (FU_lt (by omega)) (σ 131) (fun i hi => absurd hi (Nat.not_lt_zero i))
  obtain ⟨f2, h3⟩ := alike_loop q hq σ c n hc hn h7 hs n 0 (by omega) FU (FU_lt (by omega)) f1 (fun k hk => by rw [mw_at, h1 k hk]; rfl)
  refine ⟨f2, ?_⟩
  unfold fX10_pairsAlike
  rw [mw_self] at h2
  exact h2.trans h3
