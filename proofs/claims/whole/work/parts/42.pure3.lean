/-! PURE, 3: a constraint's violation, the cost -/
def ab (d : Int32) : Int32 := if 0 ≤ d then d else -d
def vio (kind num : Int32) (L : List Int32) : Int32 :=
  if kind = 0 then prsL 1 L else if kind = 1 then (if 0 ≤ sumL L - num then sumL L - num else 0) else if kind = 2 then ab (sumL L - num) else if kind = 3 then dscL num L else if kind = 4 then ab (zerL L - num) else prsL num L
/-- of a problem p (0 sizes, 1 values, 2 kinds, 3 members, 4 numbers, 5 weights): the violation of its constraint c over a row, n variables -/
def vioP (p : Nat → Nat → Int32) (row : Nat → Int32) (n c : Nat) : Int32 := vio (p 2 c) (p 4 c) (mlist (p 3 c) row n)
def cst (p : Nat → Nat → Int32) (row : Nat → Int32) (n : Nat) : Nat → Int32
  | 0 => 0
  | k + 1 => cst p row n k + p 5 k * vioP p row n k
def xp (σ : Mem) : Nat → Nat → Int32 := fun j => σ (2 + j)
def mp (σ : Mem) : Nat → Nat → Int32 := fun j => σ (125 + j)
theorem mlist_sml (m : Int32) (row : Nat → Int32) : ∀ n, (∀ v, v < n → sml (row v)) → ∀ x ∈ mlist m row n, sml x
  | 0, _, x, hx => by cases hx
  | n + 1, h, x, hx => by
    cases hb0 : hb m n with
    | true =>
      rw [mlist_t _ hb0] at hx
      rcases List.mem_append.mp hx with hx | hx
      · exact mlist_sml m row n (fun v hv => h v (by omega)) x hx
      · rw [List.mem_singleton.mp hx]; exact h n (by omega)
    | false =>
      rw [mlist_f _ hb0] at hx
      exact mlist_sml m row n (fun v hv => h v (by omega)) x hx
theorem mlist_congr (m : Int32) {r1 r2 : Nat → Int32} : ∀ n, (∀ v, v < n → r1 v = r2 v) → mlist m r1 n = mlist m r2 n
  | 0, _ => rfl
  | n + 1, h => by
    have ih := mlist_congr m n (fun v hv => h v (by omega))
    cases hb0 : hb m n with
    | true => rw [mlist_t _ hb0, mlist_t _ hb0, ih, h n (by omega)]
    | false => rw [mlist_f _ hb0, mlist_f _ hb0, ih]
theorem vioP_congr {p1 p2 : Nat → Nat → Int32} {r1 r2 : Nat → Int32} {n c : Nat} (h2 : p1 2 c = p2 2 c) (h3 : p1 3 c = p2 3 c) (h4 : p1 4 c = p2 4 c) (hr : ∀ v, v < n → r1 v = r2 v) : vioP p1 r1 n c = vioP p2 r2 n c := by
  unfold vioP
  rw [h2, h3, h4, mlist_congr _ n hr]
theorem cst_congr {p1 p2 : Nat → Nat → Int32} {r1 r2 : Nat → Int32} {n : Nat} (hr : ∀ v, v < n → r1 v = r2 v) : ∀ k, (∀ c, c < k → p1 2 c = p2 2 c ∧ p1 3 c = p2 3 c ∧ p1 4 c = p2 4 c ∧ p1 5 c = p2 5 c) → cst p1 r1 n k = cst p2 r2 n k
  | 0, _ => rfl
  | k + 1, h => by
    obtain ⟨h2, h3, h4, h5⟩ := h k (by omega)
    show cst p1 r1 n k + p1 5 k * vioP p1 r1 n k = cst p2 r2 n k + p2 5 k * vioP p2 r2 n k
    rw [cst_congr hr k (fun c hc => h c (by omega)), h5, vioP_congr h2 h3 h4 hr]
/-- the kinds are kinds -/
def kdOk (x : Int32) : Prop := ∃ k : Nat, k ≤ 5 ∧ x = nI k
theorem mx0 (d : Int32) : (if (0 : Int32) < d then d else 0) = if 0 ≤ d then d else 0 := by
  by_cases h : (0 : Int32) < d
  · rw [if_pos h, if_pos (Int32.le_of_lt h)]
  · rw [if_neg h]
    by_cases h2 : 0 ≤ d
    · rw [if_pos h2]
      exact Int32.le_antisymm h2 (Int32.not_lt.mp h)
    · rw [if_neg h2]
theorem ab0 (d : Int32) : (if 0 ≤ d then d else 0 - d) = ab d := by
  unfold ab
  rw [Int32.zero_sub]
theorem xvio (q : Nat) (hq : q ≠ 8) (σ : Mem) (c n : Nat) (hc : c < 20) (hn : n ≤ 10) (h7 : σ 1 7 = nI n) (hk : kdOk (σ 4 c)) (hs : ∀ v, v < n → sml (σ q v)) : ∃ f', fX4_violationIn q σ (nI c) = some (vioP (xp σ) (σ q) n c, mw σ 8 f') := by
  obtain ⟨f', hf, hg⟩ := gather_eq q hq σ c n hc hn h7
  have hl : (mlist (σ 5 c) (σ q) n).length ≤ 10 := Nat.le_trans (mlist_len _ _ n) hn
  have hs2 := mlist_sml (σ 5 c) (σ q) n hs
  have hA : agr (mw σ 8 f' 8) (mlist (σ 5 c) (σ q) n) := by rw [mw_at]; exact hf
  refine ⟨f', ?_⟩
  unfold fX4_violationIn
  rw [hg, bd_some, ck_i hc (by omega), ck_i hc (by omega), cl_i (by omega), mw_ne σ f' (show (4 : Nat) ≠ 8 by decide), mw_ne σ f' (show (6 : Nat) ≠ 8 by decide), cp_eq _ _ _ hA hl hs2, cp_eq _ _ _ hA hl hs2, sum_eq _ _ hA hl, zer_eq _ _ hA hl, dsc_eq _ _ _ hA hl, bd_some, bd_some, bd_some, bd_some, bd_some, bd_some, mx0, ab0, ab0]
  show _ = some (vio (σ 4 c) (σ 6 c) (mlist (σ 5 c) (σ q) n), mw σ 8 f')
  unfold vio
  obtain ⟨k, hk5, hk⟩ := hk
  rw [hk]
  match k, hk5 with
  | 0, _ => rfl
  | 1, _ => rfl
  | 2, _ => rfl
  | 3, _ => rfl
  | 4, _ => rfl
  | 5, _ => rfl
theorem mvio (q : Nat) (hq : q ≠ 131) (σ : Mem) (c n : Nat) (hc : c < 20) (hn : n ≤ 10) (h7 : σ 124 7 = nI n) (hk : kdOk (σ 127 c)) (hs : ∀ v, v < n → sml (σ q v)) : ∃ f', fX10_violationOf q σ (nI c) = some (vioP (mp σ) (σ q) n c, mw σ 131 f') := by
  obtain ⟨f', ha⟩ := alike_eq q hq σ c n hc hn h7 hs
  have e0 : mw σ 131 (σ 131) = σ := mw_self σ 131
  have hv : vioP (mp σ) (σ q) n c = vio (σ 127 c) (σ 129 c) (mlist (σ 128 c) (σ q) n) := rfl
  rw [hv]
  unfold fX10_violationOf li
  rw [ck_i hc (by omega), cl_i (by omega), ha, sumOf_eq q σ c n hc hn h7, zerOf_eq q σ c n hc hn h7, nasc_eq q σ c n hc hn h7, near_eq q σ c n hc hn h7]
  simp only [bd_some, ck_i hc (show 20 ≤ 1000000 by omega)]
  unfold vio
  obtain ⟨k, hk5, hk⟩ := hk
  rw [hk]
  match k, hk5 with
  | 0, _ => exact ⟨f', rfl⟩
  | 1, _ =>
    refine ⟨σ 131, ?_⟩
    rw [e0]
    simp only [eq_false (show ¬ nI 1 = (0 : Int32) by decide), eq_true (show nI 1 = (1 : Int32) by decide), if_false, if_true]
    by_cases c0 : 0 ≤ sumL (mlist (σ 128 c) (σ q) n) - σ 129 c
    · rw [if_pos c0, if_pos c0]
    · rw [if_neg c0, if_neg c0]
  | 2, _ =>
    refine ⟨σ 131, ?_⟩
    unfold ab
    rw [e0]
    simp only [eq_false (show ¬ nI 2 = (0 : Int32) by decide), eq_false (show ¬ nI 2 = (1 : Int32) by decide), eq_true (show nI 2 = (2 : Int32) by decide), if_false, if_true]
    by_cases c0 : 0 ≤ sumL (mlist (σ 128 c) (σ q) n) - σ 129 c
    · rw [if_pos c0, if_pos c0]
    · rw [if_neg c0, if_neg c0]
  | 3, _ => exact ⟨σ 131, by rw [e0]; rfl⟩
  | 4, _ =>
    refine ⟨σ 131, ?_⟩
    unfold ab
    rw [e0]
    simp only [eq_false (show ¬ nI 4 = (0 : Int32) by decide), eq_false (show ¬ nI 4 = (1 : Int32) by decide), eq_false (show ¬ nI 4 = (2 : Int32) by decide), eq_false (show ¬ nI 4 = (3 : Int32) by decide), eq_true (show nI 4 = (4 : Int32) by decide), if_false, if_true]
    by_cases c0 : 0 ≤ zerL (mlist (σ 128 c) (σ q) n) - σ 129 c
    · rw [if_pos c0, if_pos c0]
    · rw [if_neg c0, if_neg c0]
  | 5, _ => exact ⟨σ 131, by rw [e0]; rfl⟩
theorem xcost_loop (q : Nat) (hq : q ≠ 8) (σ : Mem) (n k : Nat) (hn : n ≤ 10) (hk : k ≤ 20) (h7 : σ 1 7 = nI n) (h8 : σ 1 8 = nI k) (hkd : ∀ c, c < k → kdOk (σ 4 c)) (hs : ∀ v, v < n → sml (σ q v)) : ∀ (j c : Nat), c + j = k → ∀ N, j < N → ∀ f, ∃ f', fX4_costIn_L4 q N (mw σ 8 f) (cst (xp σ) (σ q) n c) (nI c) = some (cst (xp σ) (σ q) n k, mw σ 8 f') := by
  intro j
  induction j with
  | zero =>
    intro c hc N hN f
    obtain ⟨N, rfl, hN⟩ := nsub1 hN
    have e : c = k := by omega
    subst e
    refine ⟨f, ?_⟩
    show fX4_costIn_B4 q (fX4_costIn_L4 q N) _ _ _ = _
    unfold fX4_costIn_B4
    rw [mw_ne σ f (show (1 : Nat) ≠ 8 by decide), h8, if_pos ((le_i (by omega) (by omega)).mpr (Nat.le_refl _))]
  | succ j ih =>
    intro c hc N hN f
    obtain ⟨N, rfl, hN⟩ := nsub1 hN
    obtain ⟨f1, h1⟩ := xvio q hq (mw σ 8 f) c n (by omega) hn (by rw [mw_ne σ f (show (1 : Nat) ≠ 8 by decide)]; exact h7) (by rw [mw_ne σ f (show (4 : Nat) ≠ 8 by decide)]; exact hkd c (by omega)) (fun v hv => by rw [mw_ne σ f hq]; exact hs v hv)
    obtain ⟨f2, h2⟩ := ih (c + 1) (by omega) N (by omega) f1
    refine ⟨f2, ?_⟩
    show fX4_costIn_B4 q (fX4_costIn_L4 q N) _ _ _ = _
    unfold fX4_costIn_B4 li
    rw [mw_ne σ f (show (1 : Nat) ≠ 8 by decide), h8, if_neg (fun h => absurd ((le_i (by omega) (by omega)).mp h) (by omega)), ck_i (by omega) (by omega), h1, bd_some, cl_i (by omega), mw_ne σ f (show (7 : Nat) ≠ 8 by decide), mw_mw, nI_s, mw_ne σ f hq]
    rw [← h2]
    rfl
theorem xcost (q : Nat) (hq : q ≠ 8) (σ : Mem) (n k : Nat) (hn : n ≤ 10) (hk : k ≤ 20) (h7 : σ 1 7 = nI n) (h8 : σ 1 8 = nI k) (hkd : ∀ c, c < k → kdOk (σ 4 c)) (hs : ∀ v, v < n → sml (σ q v)) : ∃ f', fX4_costIn q σ = some (cst (xp σ) (σ q) n k, mw σ 8 f') := by
  obtain ⟨f', h⟩ := xcost_loop q hq σ n k hn hk h7 h8 hkd hs k 0 (by omega) FU (FU_lt (by omega)) (σ 8)
  rw [mw_self] at h
  exact ⟨f', h⟩
theorem mcost_loop (q : Nat) (hq : q ≠ 131) (σ : Mem) (n k : Nat) (hn : n ≤ 10) (hk : k ≤ 20) (h7 : σ 124 7 = nI n) (h8 : σ 124 8 = nI k) (hkd : ∀ c, c < k → kdOk (σ 127 c)) (hs : ∀ v, v < n → sml (σ q v)) : ∀ (j c : Nat), c + j = k → ∀ N, j < N → ∀ f, ∃ f', fX10_costOf_L4 q N (mw σ 131 f) (cst (mp σ) (σ q) n c) (nI c) = some (cst (mp σ) (σ q) n k, mw σ 131 f') := by
  intro j
  induction j with
  | zero =>
    intro c hc N hN f
    obtain ⟨N, rfl, hN⟩ := nsub1 hN
    have e : c = k := by omega
    subst e
    refine ⟨f, ?_⟩
    show fX10_costOf_B4 q (fX10_costOf_L4 q N) _ _ _ = _
    unfold fX10_costOf_B4
    rw [mw_ne σ f (show (124 : Nat) ≠ 131 by decide), h8, if_pos ((le_i (by omega) (by omega)).mpr (Nat.le_refl _))]
  | succ j ih =>
    intro c hc N hN f
    obtain ⟨N, rfl, hN⟩ := nsub1 hN
    obtain ⟨f1, h1⟩ := mvio q hq (mw σ 131 f) c n (by omega) hn (by rw [mw_ne σ f (show (124 : Nat) ≠ 131 by decide)]; exact h7) (by rw [mw_ne σ f (show (127 : Nat) ≠ 131 by decide)]; exact hkd c (by omega)) (fun v hv => by rw [mw_ne σ f hq]; exact hs v hv)
    obtain ⟨f2, h2⟩ := ih (c + 1) (by omega) N (by omega) f1
    refine ⟨f2, ?_⟩
    show fX10_costOf_B4 q (fX10_costOf_L4 q N) _ _ _ = _
    unfold fX10_costOf_B4 li
    rw [mw_ne σ f (show (124 : Nat) ≠ 131 by decide), h8, if_neg (fun h => absurd ((le_i (by omega) (by omega)).mp h) (by omega)), ck_i (by omega) (by omega), h1, bd_some, cl_i (by omega), mw_ne σ f (show (130 : Nat) ≠ 131 by decide), mw_mw, nI_s, mw_ne σ f hq]
    rw [← h2]
    rfl
theorem mcost (q : Nat) (hq : q ≠ 131) (σ : Mem) (n k : Nat) (hn : n ≤ 10) (hk : k ≤ 20) (h7 : σ 124 7 = nI n) (h8 : σ 124 8 = nI k) (hkd : ∀ c, c < k → kdOk (σ 127 c)) (hs : ∀ v, v < n → sml (σ q v)) : ∃ f', fX10_costOf q σ = some (cst (mp σ) (σ q) n k, mw σ 131 f') := by
  obtain ⟨f', h⟩ := mcost_loop q hq σ n k hn hk h7 h8 hkd hs k 0 (by omega) FU (FU_lt (by omega)) (σ 131)
  rw [mw_self] at h
  exact ⟨f', h⟩
