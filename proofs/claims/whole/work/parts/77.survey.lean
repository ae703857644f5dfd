/-! PURE, 37: all combinations weighed, on both sides -/
def sz (p : Nat → Nat → Int32) (n u : Nat) : Nat := if u < n then (p 0 u).toNatClampNeg else 1
theorem sz_ok {p : Nat → Nat → Int32} {n k : Nat} (hv : vld p n k) {u : Nat} (h : u < n) : p 0 u = nI (sz p n u) := by
  obtain ⟨s, w, h1, h2, h3, h4, h5⟩ := hv.2.2.1 u h
  have e : sz p n u = (p 0 u).toNatClampNeg := if_pos h
  rw [e, h4, cl_i (by omega)]
theorem sz_8 {p : Nat → Nat → Int32} {n k : Nat} (hv : vld p n k) (u : Nat) : 0 < sz p n u ∧ sz p n u ≤ 8 := by
  by_cases h : u < n
  · obtain ⟨s, w, h1, h2, h3, h4, h5⟩ := hv.2.2.1 u h
    have e : sz p n u = (p 0 u).toNatClampNeg := if_pos h
    rw [e, h4, cl_i (by omega)]
    omega
  · have e : sz p n u = 1 := if_neg h
    omega
theorem prd_b {sN : Nat → Nat} (h8 : ∀ u, sN u ≤ 8) : ∀ v, prd sN v ≤ 8 ^ v
  | 0 => Nat.le_refl 1
  | v + 1 => by
    show prd sN v * sN v ≤ 8 ^ v * 8
    exact Nat.mul_le_mul (prd_b h8 v) (h8 v)
theorem cmb_prd {p : Nat → Nat → Int32} {n k : Nat} (hv : vld p n k) : ∀ v, v ≤ n → cmb' p v = nI (prd (sz p n) v)
  | 0, _ => rfl
  | v + 1, h => by
    show cmb' p v * p 0 v = nI (prd (sz p n) v * sz p n v)
    rw [cmb_prd hv v (by omega), sz_ok hv (show v < n by omega), nI_mul]
theorem rnk_lt {sN r : Nat → Nat} (h : ∀ u, r u < sN u) : ∀ v, rnk sN r v < prd sN v
  | 0 => Nat.zero_lt_one
  | v + 1 => by
    show rnk sN r v * sN v + r v < prd sN v * sN v
    have h1 := h v
    have h2 : (rnk sN r v + 1) * sN v ≤ prd sN v * sN v := Nat.mul_le_mul_right _ (rnk_lt h v)
    rw [Nat.succ_mul] at h2
    omega
theorem rnk_0 (sN : Nat → Nat) : ∀ v, rnk sN (fun _ => 0) v = 0
  | 0 => rfl
  | v + 1 => by
    show rnk sN (fun _ => 0) v * sN v + 0 = 0
    rw [rnk_0 sN v, Nat.zero_mul]
def pst (n k : Nat) (σ τ : Mem) : Prop := σ 113 3 = τ 124 42 ∧ σ 113 4 = τ 124 43 ∧ σ 113 5 = τ 124 44 ∧ σ 113 6 = τ 124 45 ∧ (∃ m : Nat, m < 2 ^ k ∧ σ 113 6 = nI m) ∧ ∀ v, v < n → σ 115 v = τ 147 v
theorem two_k {k : Nat} (h : k ≤ 20) : 2 ^ k ≤ 1048576 := Nat.pow_le_pow_right (by omega) h
/-- one combination weighed -/
theorem both1 {p : Nat → Nat → Int32} {n k : Nat} (hv : vld p n k) {r : Nat → Nat} (hr : ∀ u, r u < sz p n u) {σ τ : Mem} (hx : isX 1 σ p n k) (hm : isM0 τ p n k) (x : ∀ u, u < n → σ 114 u = nI (r u)) (y : ∀ u, u < n → τ 146 u = nI (r u)) (i5 : σ 113 5 = τ 124 44) (i0 : σ 113 3 = 1000000 ∧ τ 124 42 = 2147483647 ∨ pst n k σ τ) (r44 : Mem → Option (Int32 × Mem)) : ∃ σ' τ', fX7_weigh σ = some σ' ∧ fX10_findsAll_B44 r44 τ = fX10_findsAll_L183 r44 τ' ∧ pst n k σ' τ' ∧ Ag W_X7_weigh σ σ' ∧ Ag (fun c i => c = 124 ∧ 42 ≤ i ∧ i < 46 ∨ c = 131 ∨ c = 147) τ τ' := by
  have hn := hv.1
  have hk := hv.2.1
  have h2k := two_k hk
  have hs : ∀ v, v < n → sml (nI (r v)) := fun v hv' => ⟨r v, by have := hr v; have := (sz_8 hv v).2; omega, rfl⟩
  obtain ⟨σ', e1, e5, e3, e4, e6, e7, a1⟩ := xweigh (row := fun u => nI (r u)) hv hx x hs
  obtain ⟨τ', f1, f5, f3, f4, f6, f7, a2⟩ := mweigh (row := fun u => nI (r u)) hv hm y hs r44
  obtain ⟨w, hw, ew⟩ := vst_b p (fun u => nI (r u)) n k hk
  obtain ⟨a, ha, ea⟩ := cst_b hn hs k (fun c hc => ⟨(hv.2.2.2 c hc).2.2.1, (hv.2.2.2 c hc).2.2.2⟩)
  rw [ew, ea] at e6 f6
  rw [ea] at e3 e4 e5 e7 f3 f4 f5 f7
  have g1 : nI a < (1000000 : Int32) := (nI_ltI (b := 1000000) (by omega) (by omega)).2 (by omega)
  have g2 : nI a < (2147483647 : Int32) := (nI_ltI (b := 2147483647) (by omega) (by omega)).2 (by omega)
  refine ⟨σ', τ', e1, f1, ⟨?_, ?_, ?_, ?_, ?_, ?_⟩, a1, a2⟩
  · rw [e3, f3]
    rcases i0 with i0 | i0
    · rw [i0.1, i0.2, if_pos g1, if_pos g2]
    · rw [i0.1]
  · rw [e4, f4]
    rcases i0 with i0 | i0
    · rw [i0.1, i0.2, if_pos g1, if_pos g2]
    · rw [i0.1, i0.2.1]
  · rw [e5, f5, i5]
  · rw [e6, f6]
    rcases i0 with i0 | i0
    · rw [i0.1, i0.2, if_pos g1, if_pos g2]
    · rw [i0.1, i0.2.2.2.1]
  · rcases i0 with i0 | i0
    · refine ⟨w, hw, ?_⟩
      rw [e6, i0.1, if_pos g1]
    · obtain ⟨m, hm1, hm2⟩ := i0.2.2.2.2.1
      by_cases c1 : nI a < σ 113 3
      · exact ⟨w, hw, by rw [e6, if_pos c1]⟩
      · by_cases c2 : nI a = σ 113 3
        · exact ⟨m &&& w, Nat.lt_of_le_of_lt Nat.and_le_left hm1, by rw [e6, if_neg c1, if_pos c2, hm2, nI_and (by omega) (by omega)]⟩
        · exact ⟨m, hm1, by rw [e6, if_neg c1, if_neg c2, hm2]⟩
  · intro v hv'
    rw [e7 v hv', f7 v hv']
    rcases i0 with i0 | i0
    · rw [i0.1, i0.2, if_pos g1, if_pos g2]
    · rw [i0.1, i0.2.2.2.2.2 v hv']
theorem pst_tr {n k : Nat} {σ τ σ' τ' : Mem} {W W' : Nat → Nat → Prop} (h : pst n k σ τ) (a : Ag W σ σ') (s : ∀ c i, c = 113 ∧ 3 ≤ i ∧ i < 7 ∨ c = 115 → ¬ W c i) (a' : Ag W' τ τ') (s' : ∀ c i, c = 124 ∧ 42 ≤ i ∧ i < 46 ∨ c = 147 → ¬ W' c i) : pst n k σ' τ' := by
  obtain ⟨h1, h2, h3, h4, h5, h6⟩ := h
  unfold pst
  rw [a 113 3 (s _ _ (by omega)), a 113 4 (s _ _ (by omega)), a 113 5 (s _ _ (by omega)), a 113 6 (s _ _ (by omega)), a' 124 42 (s' _ _ (by omega)), a' 124 43 (s' _ _ (by omega)), a' 124 44 (s' _ _ (by omega)), a' 124 45 (s' _ _ (by omega))]
  exact ⟨h1, h2, h3, h4, h5, fun v hv => (a _ _ (s _ _ (by omega))).trans ((h6 v hv).trans (a' _ _ (s' _ _ (by omega))).symm)⟩
theorem exp_loop {p : Nat → Nat → Int32} {n k P : Nat} (hv : vld p n k) (hP : P = prd (sz p n) n) (hP5 : P ≤ 5000) : ∀ (j i : Nat), i + j + 1 = P → ∀ N, j + 1 < N → ∀ N', j < N' → ∀ (r : Nat → Nat), (∀ u, r u < sz p n u) → rnk (sz p n) r n = i → ∀ σ τ : Mem, isX 1 σ p n k → isM0 τ p n k → (∀ u, u < n → σ 114 u = nI (r u)) → (∀ u, u < n → τ 146 u = nI (r u)) → σ 113 5 = τ 124 44 → (σ 113 3 = 1000000 ∧ τ 124 42 = 2147483647 ∨ pst n k σ τ) → ∃ σ' τ', fX7_explore_L26 N σ (nI P) (nI i) = some σ' ∧ fX10_findsAll_L44 N' τ = some (1, τ') ∧ σ' 113 2 = 1 ∧ pst n k σ' τ' := by
  have hn := hv.1
  have hsz : ∀ u, sz p n u ≤ 8 := fun u => (sz_8 hv u).2
  intro j
  induction j with
  | zero =>
    intro i hi N hN N' hN' r hr hrk σ τ hx hm x y i5 i0
    obtain ⟨N, rfl, hN⟩ := nsub1 hN
    obtain ⟨N, rfl, hN⟩ := nsub1 (show 0 < N by omega)
    obtain ⟨N', rfl, hN'⟩ := nsub1 hN'
    obtain ⟨σ1, τ1, e1, e2, p1, a1, a2⟩ := both1 hv hr hx hm x y i5 i0 (fX10_findsAll_L44 N')
    have hx1 := isX_ag hx a1 (fun _ _ _ => by omega)
    have hm1 := isM0_ag hm a2 (fun _ _ _ => by omega)
    obtain ⟨σ2, e3, -, a3⟩ := xadv hn (fun v hv' => sz_ok hv hv') hsz n (Nat.le_refl _) FU (FU_lt (by omega)) σ1 r hx1 hr (fun u hu => (a1 _ _ (by omega)).trans (x u hu))
    obtain ⟨τ2, e4, -, a4⟩ := madv hn (fun v hv' => sz_ok hv hv') hsz n (Nat.le_refl _) FU (FU_lt (by omega)) τ1 r hm1 hr (fun u hu => (a2 _ _ (by omega)).trans (y u hu))
    have hb : (adv (sz p n) n r).2 = false := by
      rcases adv_rnk (sz p n) n r hr with ⟨-, g⟩ | ⟨g, -⟩
      · have := rnk_lt (adv_lt (sz p n) n r hr) n
        omega
      · exact g
    rw [hb] at e4
    have p2 := pst_tr p1 a3 (fun _ _ _ => by omega) a4 (fun _ _ _ => by omega)
    refine ⟨mst σ2 113 2 1, τ2, ?_, ?_, by rw [mst_at, upd_at], pst_tr p2 (ag_mst (W := fun c i => c = 113 ∧ i = 2) σ2 1 ⟨rfl, rfl⟩) (fun _ _ _ => by omega) (ag_r (W := Wn)) (fun _ _ _ => by omega)⟩
    · rw [show fX7_explore_L26 (N + 1 + 1) = fX7_explore_B26 (fX7_explore_L26 (N + 1)) from rfl]
      unfold fX7_explore_B26
      rw [if_neg (fun hh => absurd ((le_i (by omega) (by omega)).1 hh) (by omega)), e1, bv_some]
      unfold fX7_advance
      rw [hx1.1, e3, bv_some, nI_s, show fX7_explore_L26 (N + 1) = fX7_explore_B26 (fX7_explore_L26 N) from rfl]
      unfold fX7_explore_B26
      rw [if_pos ((le_i (by omega) (by omega)).2 (by omega)), lt_e2]
    · rw [show fX10_findsAll_L44 (N' + 1) = fX10_findsAll_B44 (fX10_findsAll_L44 N') from rfl, e2]
      unfold fX10_findsAll_L183 fX10_goesOn
      rw [hm1.1, e4, bd_some]
      rfl
  | succ j ih =>
    intro i hi N hN N' hN' r hr hrk σ τ hx hm x y i5 i0
    obtain ⟨N, rfl, hN⟩ := nsub1 hN
    obtain ⟨N', rfl, hN'⟩ := nsub1 hN'
    obtain ⟨σ1, τ1, e1, e2, p1, a1, a2⟩ := both1 hv hr hx hm x y i5 i0 (fX10_findsAll_L44 N')
    have hx1 := isX_ag hx a1 (fun _ _ _ => by omega)
    have hm1 := isM0_ag hm a2 (fun _ _ _ => by omega)
    obtain ⟨σ2, e3, x3, a3⟩ := xadv hn (fun v hv' => sz_ok hv hv') hsz n (Nat.le_refl _) FU (FU_lt (by omega)) σ1 r hx1 hr (fun u hu => (a1 _ _ (by omega)).trans (x u hu))
    obtain ⟨τ2, e4, x4, a4⟩ := madv hn (fun v hv' => sz_ok hv hv') hsz n (Nat.le_refl _) FU (FU_lt (by omega)) τ1 r hm1 hr (fun u hu => (a2 _ _ (by omega)).trans (y u hu))
    have hb : (adv (sz p n) n r).2 = true ∧ rnk (sz p n) (adv (sz p n) n r).1 n = i + 1 := by
      rcases adv_rnk (sz p n) n r hr with ⟨g1, g⟩ | ⟨-, g⟩
      · exact ⟨g1, by omega⟩
      · omega
    rw [hb.1] at e4
    have p2 := pst_tr p1 a3 (fun _ _ _ => by omega) a4 (fun _ _ _ => by omega)
    obtain ⟨σ', τ', f1, f2, f3, f4⟩ := ih (i + 1) (by omega) N (by omega) N' (by omega) (adv (sz p n) n r).1 (adv_lt _ n r hr) hb.2 σ2 τ2 (isX_ag hx1 a3 (fun _ _ _ => by omega)) (isM0_ag hm1 a4 (fun _ _ _ => by omega)) x3 x4 p2.2.2.1 (Or.inr p2)
    refine ⟨σ', τ', ?_, ?_, f3, f4⟩
    · rw [show fX7_explore_L26 (N + 1) = fX7_explore_B26 (fX7_explore_L26 N) from rfl]
      unfold fX7_explore_B26
      rw [if_neg (fun hh => absurd ((le_i (by omega) (by omega)).1 hh) (by omega)), e1, bv_some]
      unfold fX7_advance
      rw [hx1.1, e3, bv_some, nI_s]
      exact f1
    · rw [show fX10_findsAll_L44 (N' + 1) = fX10_findsAll_B44 (fX10_findsAll_L44 N') from rfl, e2]
      unfold fX10_findsAll_L183 fX10_goesOn
      rw [hm1.1, e4, bd_some, if_neg (by decide)]
      exact f2
theorem fa_loop (τ : Mem) : ∀ (j i : Nat), i + j = 10 → ∀ N, j < N → fX10_findsAll_L14 N (mw τ 146 (fillF (τ 146) i 0)) (nI i) = fX10_findsAll_L44 FU (mst (mst (mw τ 146 (fillF (τ 146) 10 0)) 124 42 2147483647) 124 44 0) := by
  intro j
  induction j with
  | zero =>
    intro i hi N hN
    obtain ⟨N, rfl, hN⟩ := nsub1 hN
    have e : i = 10 := by omega
    subst e
    rw [show fX10_findsAll_L14 (N + 1) = fX10_findsAll_B14 (fX10_findsAll_L14 N) from rfl]
    unfold fX10_findsAll_B14
    rw [if_pos (show (10 : Int32) ≤ nI 10 by decide), lt_e2, lt_e2]
  | succ j ih =>
    intro i hi N hN
    obtain ⟨N, rfl, hN⟩ := nsub1 hN
    rw [show fX10_findsAll_L14 (N + 1) = fX10_findsAll_B14 (fX10_findsAll_L14 N) from rfl]
    unfold fX10_findsAll_B14
    rw [if_neg (show ¬ (10 : Int32) ≤ nI i from fun h => absurd ((le_i (a := 10) (by omega) (by omega)).mp h) (by omega)), ck_i (by omega) (by omega), cl_i (by omega), lt_e2, mst_mw, nI_s]
    have e : upd (fillF (τ 146) i 0) i 0 = fillF (τ 146) (i + 1) 0 := by
      funext k
      unfold upd fillF
      by_cases h1 : k = i
      · rw [if_pos h1, if_pos (by omega)]
      · rw [if_neg h1]
        by_cases h2 : k < i
        · rw [if_pos h2, if_pos (by omega)]
        · rw [if_neg h2, if_neg (by omega)]
    rw [e]
    exact ih (i + 1) (by omega) N (by omega)
theorem exp_R {p : Nat → Nat → Int32} {n k : Nat} (hv : vld p n k) (h5 : prd (sz p n) n ≤ 5000) {σ τ : Mem} (hx : isX 1 σ p n k) (hm : isM0 τ p n k) : ∃ σ' τ', fX7_explore σ = some σ' ∧ fX10_findsAll τ = some (1, τ') ∧ σ' 113 2 = 1 ∧ pst n k σ' τ' := by
  have hn := hv.1
  have hp : 0 < prd (sz p n) n := Nat.lt_of_le_of_lt (Nat.zero_le _) (rnk_lt (fun u => (sz_8 hv u).1) (r := fun _ => 0) n)
  generalize hσ : mst (mst (mw σ 114 (fillF (σ 114) 10 0)) 113 3 1000000) 113 5 0 = σ1
  generalize hτ : mst (mst (mw τ 146 (fillF (τ 146) 10 0)) 124 42 2147483647) 124 44 0 = τ1
  have a1 : Ag (fun c i => c = 114 ∨ c = 113) σ σ1 := by
    rw [← hσ]
    exact ag_2 (ag_2 (ag_mw (W := fun c i => c = 114 ∨ c = 113) _ _ (fun _ => Or.inl rfl)) (fun _ _ h => h) (ag_mst (W := fun c i => c = 114 ∨ c = 113) _ _ (Or.inr rfl)) (fun _ _ h => h)) (fun _ _ h => h) (ag_mst (W := fun c i => c = 114 ∨ c = 113) _ _ (Or.inr rfl)) (fun _ _ h => h)
  have a2 : Ag (fun c i => c = 146 ∨ c = 124 ∧ i = 42 ∨ c = 124 ∧ i = 44) τ τ1 := by
    rw [← hτ]
    exact ag_2 (ag_2 (ag_mw (W := fun c i => c = 146 ∨ c = 124 ∧ i = 42 ∨ c = 124 ∧ i = 44) _ _ (fun _ => Or.inl rfl)) (fun _ _ h => h) (ag_mst (W := fun c i => c = 146 ∨ c = 124 ∧ i = 42 ∨ c = 124 ∧ i = 44) _ _ (Or.inr (Or.inl ⟨rfl, rfl⟩))) (fun _ _ h => h)) (fun _ _ h => h) (ag_mst (W := fun c i => c = 146 ∨ c = 124 ∧ i = 42 ∨ c = 124 ∧ i = 44) _ _ (Or.inr (Or.inr ⟨rfl, rfl⟩))) (fun _ _ h => h)
  have hx1 := isX_ag hx a1 (fun _ _ _ => by omega)
  have hm1 := isM0_ag hm a2 (fun _ _ _ => by omega)
  have s3 : σ1 113 3 = 1000000 := by rw [← hσ, mst_at, upd_ne _ _ (by decide), mst_at, upd_at]
  have s5 : σ1 113 5 = 0 := by rw [← hσ, mst_at, upd_at]
  have t3 : τ1 124 42 = 2147483647 := by rw [← hτ, mst_at, upd_ne _ _ (by decide), mst_at, upd_at]
  have t5 : τ1 124 44 = 0 := by rw [← hτ, mst_at, upd_at]
  have x1 : ∀ u, u < n → σ1 114 u = nI 0 := fun u hu => by
    rw [← hσ, mst_ne _ _ _ (by decide), mst_ne _ _ _ (by decide), mw_at]
    exact if_pos (by omega)
  have y1 : ∀ u, u < n → τ1 146 u = nI 0 := fun u hu => by
    rw [← hτ, mst_ne _ _ _ (by decide), mst_ne _ _ _ (by decide), mw_at]
    exact if_pos (by omega)
  obtain ⟨σ', τ', e1, e2, e3, e4⟩ := exp_loop hv rfl h5 (prd (sz p n) n - 1) 0 (by omega) FU (FU_lt (by omega)) FU (FU_lt (by omega)) (fun _ => 0) (fun u => (sz_8 hv u).1) (rnk_0 _ n) σ1 τ1 hx1 hm1 x1 y1 (s5.trans t5.symm) (Or.inl ⟨s3, t3⟩)
  refine ⟨σ', τ', ?_, ?_, e3, e4⟩
  · unfold fX7_explore
    rw [fill_eq _ _ (by omega), bv_some, lt_e2, lt_e2, hσ, xcmb_eq hn hx1, bd_some, cmb_prd hv n (Nat.le_refl _)]
    exact e1
  · have f := fa_loop τ 10 0 (by omega) FU (FU_lt (by omega))
    rw [fill_0, mw_self, hτ] at f
    unfold fX10_findsAll
    rw [mcmb_eq hn hm, bd_some, cmb_prd hv n (Nat.le_refl _), if_pos (show nI (prd (sz p n) n) ≤ (5000 : Int32) from (le_i (b := 5000) (by omega) (by omega)).2 h5)]
    exact f.trans e2
theorem exp_su {p : Nat → Nat → Int32} {n k : Nat} (hv : vld p n k) (h5 : prd (sz p n) n ≤ 5000) {σ : Mem} (hx : isX 1 σ p n k) (τ0 : Mem) (hm0 : isM0 τ0 p n k) : ∃ σ', fX7_explore σ = some σ' ∧ σ' 113 2 = 1 ∧ suR p n k σ' := by
  obtain ⟨σ', τ', e1, e2, e3, e4⟩ := exp_R hv h5 hx hm0
  refine ⟨σ', e1, e3, Or.inr ⟨e3, e4.2.2.2.2.1, fun τ hτ => ?_⟩⟩
  obtain ⟨σ2, τ2, f1, f2, -, f4⟩ := exp_R hv h5 hx hτ
  rw [e1] at f1
  cases f1
  exact ⟨τ2, f2, f4.1.symm, f4.2.1.symm, f4.2.2.1.symm, f4.2.2.2.1.symm, fun v hv' => (f4.2.2.2.2.2 v hv').symm⟩
