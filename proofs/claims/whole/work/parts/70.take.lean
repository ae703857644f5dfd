/-! PURE, 30: a new cost and the best one; a move is taken; values are forbidden -/
theorem mcounts_eq {τ : Mem} {p : Nat → Nat → Int32} {n k : Nat} (hv : vld p n k) (hx : isM τ p n k) : ∃ τ1, A131 τ τ1 ∧ fX10_counts τ = some (if cst p (p 1) n k < τ 124 14 then mst (mst (mw (mst τ1 124 13 (cst p (p 1) n k)) 132 (cpyF (τ 126) (τ1 132) 10)) 124 14 (cst p (p 1) n k)) 124 18 (τ 124 15) else mst τ1 124 13 (cst p (p 1) n k)) := by
  obtain ⟨τ1, e1, a1⟩ := mcostP (q := 126) (by decide) hv hx.1 (row := p 1) hx.2 (vld_sml hv)
  refine ⟨τ1, a1, ?_⟩
  have s126 : τ1 126 = τ 126 := funext fun i => a1 _ _ (by omega)
  have hs : ∀ i, i ≠ 13 → (mst τ1 124 13 (cst p (p 1) n k)) 124 i = τ 124 i := fun i hi => by rw [mst_at, upd_ne _ _ hi]; exact a1 _ _ (by omega)
  have h13 : (mst τ1 124 13 (cst p (p 1) n k)) 124 13 = cst p (p 1) n k := by rw [mst_at, upd_at]
  unfold fX10_counts
  rw [e1, bd_some, lt_e2, hs 14 (by decide), h13]
  by_cases c : cst p (p 1) n k < τ 124 14
  · rw [if_pos c, if_neg (fun hh => nl_i hh c), keeps_eq, bv_some, mst_ne _ _ _ (by decide : (126 : Nat) ≠ 124), mst_ne _ _ _ (by decide : (132 : Nat) ≠ 124), h13, hs 15 (by decide), s126]
  · rw [if_neg c, if_pos (Int32.not_lt.mp c)]
theorem kib_R {p : Nat → Nat → Int32} {n k : Nat} {bs : Nat → Int32} {σ τ : Mem} (h : prb p n k σ τ) (hb : bst p n k bs σ τ) (h6 : σ 84 6 = τ 124 18) (h7 : σ 84 7 = τ 124 15) : ∃ b σ' τ' bs', fX8_keepIfBest σ (cst p (p 1) n k) = some (b, σ') ∧ fX10_counts τ = some τ' ∧ bst p n k bs' σ' τ' ∧ σ' 84 6 = τ' 124 18 ∧ τ' 124 13 = cst p (p 1) n k ∧ (b = 0 ∧ τ 124 14 ≤ τ' 124 14 ∨ b = 1 ∧ ¬ τ 124 14 ≤ τ' 124 14) := by
  obtain ⟨hv, hx, hm⟩ := h
  have hn := hv.1
  obtain ⟨τ1, a1, em⟩ := mcounts_eq hv hm
  obtain ⟨b0, b1, b2, b3⟩ := hb
  unfold fX8_keepIfBest fX8_keepIfBest_L13 fX8_keepIfBest_L24 ckz
  rw [b2]
  rw [b3] at em
  by_cases c : cst p (p 1) n k < cst p bs n k
  · rw [if_pos c] at em
    rw [if_neg (fun hh => nl_i hh c), if_neg (show ¬ (1 : Int32) = 0 by decide), keepBest_eq, bv_some, if_pos (Or.inr rfl)]
    refine ⟨1, _, _, p 1, rfl, em, ⟨hv.2.2.1, fun v hv' => ⟨?_, ?_⟩, ?_, ?_⟩, ?_, ?_, Or.inr ⟨rfl, ?_⟩⟩
    · rw [mst_ne _ _ _ (by decide), mst_ne _ _ _ (by decide), mw_at]
      exact (if_pos (by omega)).trans (hx.2.2.1 v hv').2
    · rw [mst_ne _ _ _ (by decide), mst_ne _ _ _ (by decide), mw_at]
      exact (if_pos (by omega)).trans (hm.2 v hv')
    · rw [mst_at, upd_ne _ _ (by decide), mst_at, upd_at]
    · rw [mst_at, upd_ne _ _ (by decide), mst_at, upd_at]
    · rw [mst_at, upd_at, mst_at, upd_at]; exact h7
    · rw [mst_at, upd_ne _ _ (by decide), mst_at, upd_ne _ _ (by decide), mw_ne _ _ (by decide), mst_at, upd_at]
    · rw [b3, mst_at, upd_ne _ _ (by decide), mst_at, upd_at]
      exact fun hh => nl_i hh c
  · rw [if_neg c] at em
    rw [if_pos (Int32.not_lt.mp c), if_pos (show (0 : Int32) = 0 from rfl), if_pos (Or.inl rfl)]
    have a2 : Ag (fun c i => c = 131 ∨ c = 124 ∧ i = 13) τ (mst τ1 124 13 (cst p (p 1) n k)) := ag_2 a1 (fun _ _ h => Or.inl h) (ag_mst (W := fun c i => c = 124 ∧ i = 13) _ _ ⟨rfl, rfl⟩) (fun _ _ h => Or.inr h)
    refine ⟨0, σ, _, bs, rfl, em, bst_tr ⟨b0, b1, b2, b3⟩ (ag_r (W := Wn)) (fun _ _ _ => by omega) a2 (fun _ _ _ => by omega), h6.trans (a2 _ _ (by omega)).symm, by rw [mst_at, upd_at], Or.inl ⟨rfl, ?_⟩⟩
    rw [a2 124 14 (by omega)]
    exact Int32.le_refl _
theorem mtk_loop {τ : Mem} {n : Nat} (hn : n ≤ 10) (h7 : τ 124 7 = nI n) : ∀ (j i : Nat), i + j = n → ∀ N, j < N → fX10_takesMove_L30 N (mw τ 126 (cpyF (τ 144) (τ 126) i)) (nI i) = bv (fX10_counts (mw τ 126 (cpyF (τ 144) (τ 126) n))) fun σ4 => some σ4 := by
  intro j
  induction j with
  | zero =>
    intro i hi N hN
    obtain ⟨N, rfl, hN⟩ := nsub1 hN
    have e : i = n := by omega
    subst e
    rw [show fX10_takesMove_L30 (N + 1) = fX10_takesMove_B30 (fX10_takesMove_L30 N) from rfl]
    unfold fX10_takesMove_B30
    rw [mw_ne _ _ (by decide : (124 : Nat) ≠ 126), h7, if_pos ((le_i (by omega) (by omega)).2 (Nat.le_refl _))]
  | succ j ih =>
    intro i hi N hN
    obtain ⟨N, rfl, hN⟩ := nsub1 hN
    rw [show fX10_takesMove_L30 (N + 1) = fX10_takesMove_B30 (fX10_takesMove_L30 N) from rfl]
    unfold fX10_takesMove_B30
    rw [mw_ne _ _ (by decide : (124 : Nat) ≠ 126), h7, if_neg (fun h => absurd ((le_i (by omega) (by omega)).1 h) (by omega)), ck_i (by omega) (by omega), ck_i (by omega) (by omega), lt_e2, cl_i (by omega), mw_ne _ _ (by decide : (144 : Nat) ≠ 126), mst_mw, cpy_s, nI_s]
    exact ih (i + 1) (by omega) N (by omega)
/-- what the reference does to take a move: the values, and then the count -/
theorem mtake {p : Nat → Nat → Int32} {n k f kd a b c : Nat} {τ : Mem} (hv : vld p n k) (hx : isM τ p n k) (hf : f < 375) (hmv : mvV n kd a b c) (y0 : τ 139 f = nI kd) (y1 : τ 140 f = nI a) (y2 : τ 141 f = nI b) (y3 : kd = 3 → τ 142 f = nI c) : ∃ τ1, fX10_takesMove τ (nI f) = (bv (fX10_counts τ1) fun σ4 => some σ4) ∧ (∀ v, v < n → τ1 126 v = aft p kd a b c v) ∧ Ag (fun c _ => c = 126 ∨ c = 144) τ τ1 := by
  have hn := hv.1
  obtain ⟨t1, e1, r1, a1⟩ := mft hv hx hmv y3
  have h7 : t1 124 7 = nI n := (a1 _ _ (by omega)).trans hx.1.1
  have e2 := mtk_loop hn h7 n 0 (by omega) FU (FU_lt (by omega))
  rw [cpy_0, mw_self, nI_0] at e2
  refine ⟨mw t1 126 (cpyF (t1 144) (t1 126) n), ?_, fun v hv' => ?_, ag_2 a1 (fun _ _ h => Or.inr h) (ag_mw (W := fun c _ => c = 126) _ _ (fun _ => rfl)) (fun _ _ h => Or.inl h)⟩
  · rw [← e2]
    unfold fX10_takesMove
    rw [ck_i (by omega) (by omega), ck_i (by omega) (by omega), ck_i (by omega) (by omega), ck_i (by omega) (by omega), cl_i (by omega), y0, y1, y2, e1, bv_some]
  · rw [mw_at]
    exact (if_pos hv').trans (r1 v hv')
-- forbidden from now
def Ub (U : Nat → Nat → Nat) (p : Nat → Nat → Int32) (row : Nat → Int32) (t : Nat) (i v a : Nat) : Nat := if v < i ∧ row v ≠ p 1 v ∧ p 1 v = nI a ∧ U v a < t then t else U v a
theorem ban_le {x u : Nat} (hx : x ≤ 100000) (hu : u ≤ 100000) : nI x ≤ nI u - 1 ↔ x + 1 ≤ u := by
  by_cases h : u = 0
  · subst h
    constructor
    · intro hh
      exact absurd (Int32.le_trans (nI_pos' (n := x) (by omega)) hh) (by decide)
    · intro hh; omega
  · rw [nI_d1 (by omega), le_i (by omega) (by omega)]
    omega
theorem Ub_far {U : Nat → Nat → Nat} {p : Nat → Nat → Int32} {row : Nat → Int32} {t i v a : Nat} (h : v ≠ i) : Ub U p row t (i + 1) v a = Ub U p row t i v a := by
  unfold Ub
  by_cases c : v < i ∧ row v ≠ p 1 v ∧ p 1 v = nI a ∧ U v a < t
  · rw [if_pos c, if_pos ⟨by omega, c.2⟩]
  · rw [if_neg c, if_neg (fun hh => c ⟨by omega, hh.2⟩)]
theorem Ub_b {U : Nat → Nat → Nat} {p : Nat → Nat → Int32} {row : Nat → Int32} {t i v a it : Nat} (h : U v a ≤ it + 21) (ht : t ≤ it + 21) : Ub U p row t i v a ≤ it + 21 := by
  unfold Ub
  by_cases c : v < i ∧ row v ≠ p 1 v ∧ p 1 v = nI a ∧ U v a < t
  · rw [if_pos c]; exact ht
  · rw [if_neg c]; exact h
theorem xban_loop {p : Nat → Nat → Int32} {n k t i0 it : Nat} {U : Nat → Nat → Nat} {row : Nat → Int32} {σ : Mem} (hv : vld p n k) (hx : isX 1 σ p n k) (hr : ∀ v, v < n → σ 86 v = row v) (h7 : σ 84 7 = nI i0) (hi0 : i0 ≤ 50000) (ht : t ≤ 20) (hit : it ≤ 50000) (hU : ∀ v a, v < 10 ∧ v < n → a < 8 → U v a ≤ it + 21 ∧ σ (88 + v) a = nI (U v a)) : ∀ (j i : Nat), i + j = n → ∀ N, j < N → ∀ σ', Ag (fun c _ => 88 ≤ c ∧ c < 98) σ σ' → (∀ v a, v < 10 ∧ v < n → a < 8 → σ' (88 + v) a = nI (Ub U p row (i0 + t + 1) i v a)) → ∃ σ2, fX8_banLeftValues_L2 N σ' (nI t) (nI i) = some σ2 ∧ Ag (fun c _ => 88 ≤ c ∧ c < 98) σ σ2 ∧ ∀ v a, v < 10 ∧ v < n → a < 8 → σ2 (88 + v) a = nI (Ub U p row (i0 + t + 1) n v a) := by
  have hn := hv.1
  intro j
  induction j with
  | zero =>
    intro i hi N hN σ' a hb
    obtain ⟨N, rfl, hN⟩ := nsub1 hN
    have e : i = n := by omega
    subst e
    refine ⟨σ', ?_, a, hb⟩
    rw [show fX8_banLeftValues_L2 (N + 1) = fX8_banLeftValues_B2 (fX8_banLeftValues_L2 N) from rfl]
    unfold fX8_banLeftValues_B2
    rw [a 1 7 (by omega), hx.1, if_pos ((le_i (by omega) (by omega)).2 (Nat.le_refl _))]
  | succ j ih =>
    intro i hi N hN σ' a hb
    obtain ⟨N, rfl, hN⟩ := nsub1 hN
    obtain ⟨s, w, h2, h8, hw, hs, hw1⟩ := sz_of hv (show i < n by omega)
    have x3 : σ' 3 i = nI w := (a _ _ (by omega)).trans ((hx.2.2.1 i (by omega)).2.trans hw1)
    have x86 : σ' 86 i = row i := (a _ _ (by omega)).trans (hr i (by omega))
    rw [show fX8_banLeftValues_L2 (N + 1) = fX8_banLeftValues_B2 (fX8_banLeftValues_L2 N) from rfl]
    unfold fX8_banLeftValues_B2 fX8_banLeftValues_L58
    simp only [ck_i (show i < 10 by omega) (show 10 ≤ 1000000 by omega), cl_i (show i ≤ 1000000 by omega), x3, x86, ck_i (show w < 8 by omega) (show 8 ≤ 1000000 by omega), cl_i (show w ≤ 1000000 by omega), nI_s, Nat.one_mul]
    rw [a 1 7 (by omega), hx.1, if_neg (fun h => absurd ((le_i (by omega) (by omega)).1 h) (by omega))]
    by_cases c : row i = nI w
    · rw [if_pos c]
      refine ih (i + 1) (by omega) N (by omega) σ' a (fun v b hv' hb' => ?_)
      by_cases e : v = i
      · subst e
        rw [hb v b hv' hb']
        unfold Ub
        rw [if_neg (fun hh => absurd hh.1 (by omega)), if_neg (fun hh => hh.2.1 (c.trans hw1.symm))]
      · rw [Ub_far e]; exact hb v b hv' hb'
    · rw [if_neg c, lt_e2, a 84 7 (by omega), h7, nI_add, nI_s, hb i w (by omega) (by omega)]
      have hUw := (hU i w (by omega) (by omega)).1
      have e0 : Ub U p row (i0 + t + 1) i i w = U i w := by
        unfold Ub
        rw [if_neg (fun hh => absurd hh.1 (by omega))]
      have e1 : Ub U p row (i0 + t + 1) (i + 1) i w = if U i w < i0 + t + 1 then i0 + t + 1 else U i w := by
        unfold Ub
        by_cases d : U i w < i0 + t + 1
        · rw [if_pos ⟨by omega, by rw [hw1]; exact c, hw1, d⟩, if_pos d]
        · rw [if_neg (fun hh => d hh.2.2.2), if_neg d]
      have e2 : (if nI (U i w) < nI (i0 + t + 1) then nI (i0 + t + 1) else nI (U i w)) = nI (Ub U p row (i0 + t + 1) (i + 1) i w) := by
        rw [e1]
        by_cases d : U i w < i0 + t + 1
        · rw [if_pos ((lt_i (by omega) (by omega)).2 d), if_pos d]
        · rw [if_neg (fun hh => d ((lt_i (by omega) (by omega)).1 hh)), if_neg d]
      rw [e0, e2]
      refine ih (i + 1) (by omega) N (by omega) _ (ag_2 a (fun _ _ h => h) (ag_mst (W := fun c _ => 88 ≤ c ∧ c < 98) _ _ (by omega)) (fun _ _ h => h)) (fun v b hv' hb' => ?_)
      by_cases e : v = i
      · subst e
        rw [mst_at]
        by_cases eb : b = w
        · rw [eb, upd_at]
        · rw [upd_ne _ _ eb, hb v b hv' hb']
          unfold Ub
          rw [if_neg (fun hh => absurd hh.1 (by omega)), if_neg (fun hh => eb (nI_inj (by omega) (by omega) (hh.2.2.1.symm.trans hw1)))]
      · rw [mst_ne _ _ _ (by omega), Ub_far e]; exact hb v b hv' hb'
theorem mban_loop {p : Nat → Nat → Int32} {n k t i0 it : Nat} {U : Nat → Nat → Nat} {row : Nat → Int32} {τ : Mem} (f : Int32) (hv : vld p n k) (hx : isM τ p n k) (hr : ∀ v, v < n → τ 144 v = row v) (h15 : τ 124 15 = nI i0) (h21 : τ 124 21 = nI t) (hi0 : i0 ≤ 50000) (ht : t ≤ 20) (hit : it ≤ 50000) (hU : ∀ v a, v < 10 ∧ v < n → a < 8 → U v a ≤ it + 21 ∧ τ 133 (8 * v + a) = nI (U v a) - 1) : ∀ (j i : Nat), i + j = n → ∀ N, j < N → ∀ τ', Ag (fun c _ => c = 133) τ τ' → (∀ v a, v < 10 ∧ v < n → a < 8 → τ' 133 (8 * v + a) = nI (Ub U p row (i0 + t + 1) i v a) - 1) → ∃ τ2, fX10_steps_L57 N τ' f (nI i) = (bv (fX10_takesMove τ2 f) fun σ12 => if (τ2 124 14) ≤ (σ12 124 14) then (fX10_steps_L160 σ12 ((σ12 124 16) + (1 : Int32))) else (fX10_steps_L160 σ12 (0 : Int32))) ∧ Ag (fun c _ => c = 133) τ τ2 ∧ ∀ v a, v < 10 ∧ v < n → a < 8 → τ2 133 (8 * v + a) = nI (Ub U p row (i0 + t + 1) n v a) - 1 := by
  have hn := hv.1
  intro j
  induction j with
  | zero =>
    intro i hi N hN τ' a hb
    obtain ⟨N, rfl, hN⟩ := nsub1 hN
    have e : i = n := by omega
    subst e
    refine ⟨τ', ?_, a, hb⟩
    rw [show fX10_steps_L57 (N + 1) = fX10_steps_B57 (fX10_steps_L57 N) from rfl]
    unfold fX10_steps_B57
    rw [a 124 7 (by omega), hx.1.1, if_pos ((le_i (by omega) (by omega)).2 (Nat.le_refl _))]
  | succ j ih =>
    intro i hi N hN τ' a hb
    obtain ⟨N, rfl, hN⟩ := nsub1 hN
    obtain ⟨s, w, h2, h8, hw, hs, hw1⟩ := sz_of hv (show i < n by omega)
    have x3 : τ' 126 i = nI w := (a _ _ (by omega)).trans ((hx.2 i (by omega)).trans hw1)
    have x86 : τ' 144 i = row i := (a _ _ (by omega)).trans (hr i (by omega))
    have hidx : (8 : Int32) * nI i + nI w = nI (8 * i + w) := by rw [show (8 : Int32) * nI i = nI (8 * i) from nI_mul 8 i, nI_add]
    have hU0 := hb i w (by omega) (by omega)
    have e0 : Ub U p row (i0 + t + 1) i i w = U i w := by
      unfold Ub
      rw [if_neg (fun hh => absurd hh.1 (by omega))]
    have hUw := (hU i w (by omega) (by omega)).1
    have skip : (row i = nI w ∨ ¬ U i w < i0 + t + 1) → ∀ v b, v < 10 ∧ v < n → b < 8 → τ' 133 (8 * v + b) = nI (Ub U p row (i0 + t + 1) (i + 1) v b) - 1 := fun hsk v b hv' hb' => by
      by_cases e : v = i
      · subst e
        rw [hb v b hv' hb']
        unfold Ub
        rw [if_neg (fun hh => absurd hh.1 (by omega)), if_neg (fun hh => by
          have eb := nI_inj (a := b) (b := w) (by omega) (by omega) (hh.2.2.1.symm.trans hw1)
          rcases hsk with hsk | hsk
          · exact hh.2.1 (hsk.trans hw1.symm)
          · rw [eb] at hh; exact hsk hh.2.2.2)]
      · rw [Ub_far e]; exact hb v b hv' hb'
    rw [show fX10_steps_L57 (N + 1) = fX10_steps_B57 (fX10_steps_L57 N) from rfl]
    unfold fX10_steps_B57 fX10_steps_L125 li
    simp only [ck_i (show i < 10 by omega) (show 10 ≤ 1000000 by omega), cl_i (show i ≤ 1000000 by omega), x3, x86, hidx, ck_i (show 8 * i + w < 80 by omega) (show 80 ≤ 1000000 by omega), cl_i (show 8 * i + w ≤ 1000000 by omega), nI_s]
    rw [a 124 7 (by omega), hx.1.1, if_neg (fun h => absurd ((le_i (by omega) (by omega)).1 h) (by omega))]
    by_cases c : row i = nI w
    · rw [if_pos c]
      exact ih (i + 1) (by omega) N (by omega) τ' a (skip (Or.inl c))
    · rw [if_neg c, a 124 15 (by omega), a 124 21 (by omega), h15, h21, nI_add, hU0, e0]
      by_cases d : U i w < i0 + t + 1
      · rw [if_neg (fun hh => absurd ((ban_le (by omega) (by omega)).1 hh) (by omega)), lt_e2]
        have e1 : Ub U p row (i0 + t + 1) (i + 1) i w = i0 + t + 1 := by
          unfold Ub
          rw [if_pos ⟨by omega, by rw [hw1]; exact c, hw1, d⟩]
        refine ih (i + 1) (by omega) N (by omega) _ (ag_2 a (fun _ _ h => h) (ag_mst (W := fun c _ => c = 133) _ _ rfl) (fun _ _ h => h)) (fun v b hv' hb' => ?_)
        by_cases e : 8 * v + b = 8 * i + w
        · have e3 : v = i := by omega
          have e4 : b = w := by omega
          rw [e3, e4, mst_at, upd_at, e1, nI_p]
        · rw [mst_at, upd_ne _ _ e]
          by_cases e5 : v = i
          · subst e5
            rw [hb v b hv' hb']
            unfold Ub
            rw [if_neg (fun hh => absurd hh.1 (by omega)), if_neg (fun hh => e (by rw [nI_inj (a := b) (b := w) (by omega) (by omega) (hh.2.2.1.symm.trans hw1)]))]
          · rw [Ub_far e5]; exact hb v b hv' hb'
      · rw [if_pos ((ban_le (by omega) (by omega)).2 (by omega))]
        exact ih (i + 1) (by omega) N (by omega) τ' a (skip (Or.inr d))
