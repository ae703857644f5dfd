/-! PURE, 51: the law's loop comes to its end (by program: wip/gen/lawsim2.py) -/
theorem lt_L5 {L i : Nat} (hL : L ≤ 3000) (hi : i ≤ 3000) : (Int32.ofNat L - (5 : Int32)) < nI i ↔ L < i + 5 := by
  by_cases c : 5 ≤ L
  · rw [show Int32.ofNat L - (5 : Int32) = nI (L - 5) from nI_sub (b := 5) c, lt_i (by omega) (by omega)]
    omega
  · have key : ∀ L : Nat, L < 5 → Int32.ofNat L - (5 : Int32) < 0 := by decide
    constructor
    · intro _; omega
    · intro _
      have h0 : (0 : Int32) ≤ nI i := (le_i (a := 0) (by omega) (by omega)).2 (Nat.zero_le _)
      exact Int32.lt_of_lt_of_le (key L (by omega)) h0
theorem law_it (S_read : Sim wL_read fX10_read) {L : Nat} {xs : Nat → Int32} (hL : L ≤ 2560) : ∀ (j m : Nat), m + j = 512 → ∀ N, j + 1 < N → ∀ σ, RR (30 * m) σ σ → fL_law_L28 L xs N σ (nI (5 * m)) = some () := by
  intro j
  induction j with
  | zero =>
    intro m hm N hN σ h
    obtain ⟨N, rfl, hN⟩ := nsub1 hN
    rw [show fL_law_L28 L xs (N + 1) = fL_law_B28 L xs (fL_law_L28 L xs N) from rfl]
    unfold fL_law_B28
    rw [if_pos ((lt_L5 (by omega) (by omega)).2 (by omega))]
  | succ j ih =>
    intro m hm N hN σ h
    obtain ⟨N, rfl, hN⟩ := nsub1 hN
    rw [show fL_law_L28 L xs (N + 1) = fL_law_B28 L xs (fL_law_L28 L xs N) from rfl]
    by_cases c : L < 5 * m + 5
    · unfold fL_law_B28
      rw [if_pos ((lt_L5 (by omega) (by omega)).2 (by omega))]
    have hB : 30 * m ≤ 18000 := by omega
    have hi : 5 * m + 5 ≤ L := by omega
    have hL3 : L ≤ 3000 := by omega
    have K : ∀ σ' : Mem, RR (30 * m + 30) σ' σ' → fL_law_L28 L xs N σ' (nI (5 * m) + (5 : Int32)) = some () := fun σ' h' => by
      rw [show nI (5 * m) + (5 : Int32) = nI (5 * (m + 1)) from nI_add (5 * m) 5]
      exact ih (m + 1) (by omega) N (by omega) σ' h'
    have K0 : fL_law_L2416 L xs (fL_law_L28 L xs N) σ (nI (5 * m)) = some () := K σ (RR_mono h (by omega))
    generalize fL_law_L28 L xs N = r28 at *
    unfold fL_law_B28
    rw [if_neg (fun hh => absurd ((lt_L5 (by omega) (by omega)).1 hh) (by omega)), ck_i (by omega) (by omega)]
    clear ih
    generalize (xs (nI (5 * m)).toNatClampNeg &&& (63 : Int32)) = op
    by_cases c0 : op = (0 : Int32)
    · rw [if_pos c0]; exact k_0 hB h hi hL3 K
    rw [if_neg c0]; clear c0
    by_cases c1 : op = (1 : Int32)
    · rw [if_pos c1]; exact k_1 hB h hi hL3 K
    rw [if_neg c1]; clear c1
    by_cases c2 : op = (2 : Int32)
    · rw [if_pos c2]; exact k_2 hB h hi hL3 K
    rw [if_neg c2]; clear c2
    by_cases c3 : op = (3 : Int32)
    · rw [if_pos c3]; exact k_3 hB h hi hL3 K
    rw [if_neg c3]; clear c3
    by_cases c4 : op = (4 : Int32)
    · rw [if_pos c4]; exact k_4 hB h hi hL3 K
    rw [if_neg c4]; clear c4
    by_cases c5 : op = (5 : Int32)
    · rw [if_pos c5]; exact k_5 hB h hi hL3 K
    rw [if_neg c5]; clear c5
    by_cases c6 : op = (6 : Int32)
    · rw [if_pos c6]; exact k_6 hB h hi hL3 K
    rw [if_neg c6]; clear c6
    by_cases c7 : op = (7 : Int32)
    · rw [if_pos c7]; exact k_7 hB h hi hL3 K
    rw [if_neg c7]; clear c7
    by_cases c8 : op = (8 : Int32)
    · rw [if_pos c8]; exact k_8 hB h hi hL3 K
    rw [if_neg c8]; clear c8
    by_cases c9 : op = (9 : Int32)
    · rw [if_pos c9]; exact k_9 hB h hi hL3 K
    rw [if_neg c9]; clear c9
    by_cases c10 : op = (10 : Int32)
    · rw [if_pos c10]; exact k_10 hB h hi hL3 K
    rw [if_neg c10]; clear c10
    by_cases c11 : op = (11 : Int32)
    · rw [if_pos c11]; exact k_11 hB h hi hL3 K
    rw [if_neg c11]; clear c11
    by_cases c12 : op = (12 : Int32)
    · rw [if_pos c12]; exact k_12 hB h hi hL3 K
    rw [if_neg c12]; clear c12
    by_cases c13 : op = (13 : Int32)
    · rw [if_pos c13]; exact k_13 hB h hi hL3 K
    rw [if_neg c13]; clear c13
    by_cases c14 : op = (14 : Int32)
    · rw [if_pos c14]; exact k_14 hB h hi hL3 K
    rw [if_neg c14]; clear c14
    by_cases c15 : op = (15 : Int32)
    · rw [if_pos c15]; exact k_15 hB h hi hL3 K
    rw [if_neg c15]; clear c15
    by_cases c16 : op = (16 : Int32)
    · rw [if_pos c16]; exact k_16 hB h hi hL3 K
    rw [if_neg c16]; clear c16
    by_cases c17 : op = (17 : Int32)
    · rw [if_pos c17]; exact k_17 hB h hi hL3 K
    rw [if_neg c17]; clear c17
    by_cases c18 : op = (18 : Int32)
    · rw [if_pos c18]; exact k_18 hB h hi hL3 K
    rw [if_neg c18]; clear c18
    by_cases c19 : op = (19 : Int32)
    · rw [if_pos c19]; exact k_19 hB h hi hL3 K
    rw [if_neg c19]; clear c19
    by_cases c20 : op = (20 : Int32)
    · rw [if_pos c20]; exact k_20 hB h hi hL3 K
    rw [if_neg c20]; clear c20
    by_cases c21 : op = (21 : Int32)
    · rw [if_pos c21]; exact k_21 hB h hi hL3 K
    rw [if_neg c21]; clear c21
    by_cases c22 : op = (22 : Int32)
    · rw [if_pos c22]; exact k_22 hB h hi hL3 K
    rw [if_neg c22]; clear c22
    by_cases c23 : op = (23 : Int32)
    · rw [if_pos c23]; exact k_23 hB h hi hL3 K
    rw [if_neg c23]; clear c23
    by_cases c24 : op = (24 : Int32)
    · rw [if_pos c24]; exact k_24 hB h hi hL3 K
    rw [if_neg c24]; clear c24
    by_cases c25 : op = (25 : Int32)
    · rw [if_pos c25]; exact k_25 hB h hi hL3 K
    rw [if_neg c25]; clear c25
    by_cases c26 : op = (26 : Int32)
    · rw [if_pos c26]; exact k_26 hB h hi hL3 K
    rw [if_neg c26]; clear c26
    by_cases c27 : op = (27 : Int32)
    · rw [if_pos c27]; exact k_27 hB h hi hL3 K
    rw [if_neg c27]; clear c27
    by_cases c28 : op = (28 : Int32)
    · rw [if_pos c28]; exact k_28 hB h hi hL3 K
    rw [if_neg c28]; clear c28
    by_cases c29 : op = (29 : Int32)
    · rw [if_pos c29]; exact k_29 hB h hi hL3 K
    rw [if_neg c29]; clear c29
    by_cases c30 : op = (30 : Int32)
    · rw [if_pos c30]; exact k_30 hB h hi hL3 K
    rw [if_neg c30]; clear c30
    by_cases c31 : op = (31 : Int32)
    · rw [if_pos c31]; exact k_31 hB h hi hL3 K
    rw [if_neg c31]; clear c31
    by_cases c32 : op = (32 : Int32)
    · rw [if_pos c32]; exact k_32 hB h hi hL3 K
    rw [if_neg c32]; clear c32
    by_cases c33 : op = (33 : Int32)
    · rw [if_pos c33]; exact k_33 hB h hi hL3 K
    rw [if_neg c33]; clear c33
    by_cases c34 : op = (34 : Int32)
    · rw [if_pos c34]; exact k_34 hB h hi hL3 K
    rw [if_neg c34]; clear c34
    by_cases c35 : op = (35 : Int32)
    · rw [if_pos c35]; exact k_35 hB h hi hL3 K
    rw [if_neg c35]; clear c35
    by_cases c36 : op = (36 : Int32)
    · rw [if_pos c36]; exact k_36 hB h hi hL3 K
    rw [if_neg c36]; clear c36
    by_cases c37 : op = (37 : Int32)
    · rw [if_pos c37]; exact k_37 hB h hi hL3 K
    rw [if_neg c37]; clear c37
    by_cases c38 : op = (38 : Int32)
    · rw [if_pos c38]; exact k_38 hB h hi hL3 K
    rw [if_neg c38]; clear c38
    by_cases c39 : op = (39 : Int32)
    · rw [if_pos c39]; exact k_39 hB h hi hL3 S_read K
    rw [if_neg c39]; clear c39
    by_cases c40 : op = (40 : Int32)
    · rw [if_pos c40]; exact k_40 hB h hi hL3 K
    rw [if_neg c40]; clear c40
    by_cases c41 : op = (41 : Int32)
    · rw [if_pos c41]; exact k_41 hB h hi hL3 K
    rw [if_neg c41]; clear c41
    by_cases c42 : op = (42 : Int32)
    · rw [if_pos c42]; exact k_42 hB h hi hL3 K
    rw [if_neg c42]; clear c42
    by_cases c43 : op = (43 : Int32)
    · rw [if_pos c43]; exact k_43 hB h hi hL3 K
    rw [if_neg c43]; clear c43
    by_cases c44 : op = (44 : Int32)
    · rw [if_pos c44]; exact k_44 hB h hi hL3 K
    rw [if_neg c44]; clear c44
    exact K0
theorem law_all (S_read : Sim wL_read fX10_read) {L : Nat} {xs : Nat → Int32} (hL : L ≤ 2560) {σ : Mem} (h : RR 0 σ σ) : fL_law_L28 L xs 600 σ 0 = some () := law_it S_read hL 512 0 (by omega) 600 (by omega) σ h
