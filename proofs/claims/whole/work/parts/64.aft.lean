/-! PURE, 24: the values after a move, on both sides; held moves -/
def shI (x s b : Int32) : Int32 := if b = 1 then (if x = s - 1 then 0 else x + 1) else (if x = 0 then s - 1 else x - 1)
def aft (p : Nat → Nat → Int32) (kd a b c : Nat) : Nat → Int32 := if kd = 0 then upd (p 1) a (nI b) else if kd = 1 then upd (upd (p 1) a (p 1 b)) b (p 1 a) else if kd = 2 then upd (p 1) a (shI (p 1 a) (p 0 a) (nI b)) else upd (upd (upd (p 1) b (p 1 a)) c (p 1 b)) a (p 1 c)
/-- a move of the four kinds -/
def mvV (n kd a b c : Nat) : Prop := kd ≤ 3 ∧ a < n ∧ (kd = 0 → b < 8) ∧ (kd = 1 → b < n) ∧ (kd = 2 → b ≤ 1) ∧ (kd = 3 → b < n ∧ c < n)
theorem shi_x (s : Mem) {x sz b : Int32} (hb : b = 0 ∨ b = 1) : fX3_shifted s x sz (if b = 1 then 1 else 0) = some (shI x sz b, s) := by
  unfold fX3_shifted shI
  rcases hb with rfl | rfl
  · rw [show (if (0 : Int32) = 1 then (1 : Int32) else 0) = 0 from rfl, if_pos rfl, show (if (0 : Int32) = 1 then (if x = sz - 1 then 0 else x + 1) else (if x = 0 then sz - 1 else x - 1)) = (if x = 0 then sz - 1 else x - 1) from rfl]
    by_cases c : x = 0
    · rw [if_pos c, if_pos c]
    · rw [if_neg c, if_neg c]
  · rw [show (if (1 : Int32) = 1 then (1 : Int32) else 0) = 1 from rfl, if_neg (by decide), show (if (1 : Int32) = 1 then (if x = sz - 1 then 0 else x + 1) else (if x = 0 then sz - 1 else x - 1)) = (if x = sz - 1 then 0 else x + 1) from rfl]
    by_cases c : x = sz - 1
    · rw [if_pos c, if_pos c]
    · rw [if_neg c, if_neg c]
theorem shi_m : ∀ s, s ≤ 8 → ∀ w, w < s → (nI w + 1 - (nI w + 1) / nI s * nI s = shI (nI w) (nI s) 1) ∧ (nI w + (nI s - 1) - (nI w + (nI s - 1)) / nI s * nI s = shI (nI w) (nI s) 0) := by decide +kernel
theorem shi_ok : ∀ s, s ≤ 8 → ∀ w, w < s → (∃ u, u < s ∧ shI (nI w) (nI s) 1 = nI u) ∧ (∃ u, u < s ∧ shI (nI w) (nI s) 0 = nI u) := by
  intro s hs w hw
  have h1 := (shi_m s hs w hw)
  constructor
  · by_cases c : w = s - 1
    · refine ⟨0, by omega, ?_⟩
      unfold shI
      rw [if_pos rfl, nI_d1 (by omega), c, if_pos rfl]
      rfl
    · refine ⟨w + 1, by omega, ?_⟩
      unfold shI
      rw [if_pos rfl, nI_d1 (by omega), if_neg (fun hh => c ((eq_i (by omega) (by omega)).1 hh)), nI_s]
  · by_cases c : w = 0
    · refine ⟨s - 1, by omega, ?_⟩
      unfold shI
      rw [if_neg (by decide), c, if_pos (show nI 0 = (0 : Int32) from rfl), nI_d1 (by omega)]
    · refine ⟨w - 1, by omega, ?_⟩
      unfold shI
      rw [if_neg (by decide), if_neg (nI_ne0 (by omega) (by omega)), nI_d1 (by omega)]
theorem upd_cong2 {f g : Nat → Int32} {n v : Nat} {x y : Int32} (h : v ≠ n → f v = g v) (e : x = y) : upd f n x v = upd g n y v := by
  rw [e]; exact upd_cong y h
theorem xtry {σ : Mem} {p : Nat → Nat → Int32} {n k j kd a b c : Nat} (hv : vld p n k) (hx : isX 1 σ p n k) (hj : j < 375) (hm : mvV n kd a b c) (h0 : σ 100 j = nI kd) (h1 : σ 101 j = nI a) (h2 : σ 102 j = nI b) (h3 : kd = 3 → σ 103 j = nI c) : ∃ σ', fX3_tryOut 86 σ (nI j) = some σ' ∧ (∀ v, v < n → σ' 86 v = aft p kd a b c v) ∧ Ag (fun c _ => c = 86) σ σ' := by
  have hn := hv.1
  obtain ⟨m0, m1, m2, m3, m4, m5⟩ := hm
  obtain ⟨x1, x2, x3, x4⟩ := hx
  have e3 : ∀ v, v < n → σ 3 v = p 1 v := fun v hv => (x3 v hv).2
  have e2 : ∀ v, v < n → σ 2 v = p 0 v := fun v hv => (x3 v hv).1
  generalize hs : mw σ 86 (cpyF (σ 3) (σ 86) 10) = s
  have s86 : s 86 = cpyF (σ 3) (σ 86) 10 := by rw [← hs, mw_at]
  have sn : ∀ c, c ≠ 86 → s c = σ c := fun c hc => by rw [← hs, mw_ne _ _ hc]
  have r0 : ∀ v, v < n → s 86 v = p 1 v := fun v hv => by rw [s86]; exact (if_pos (by omega)).trans (e3 v hv)
  have hmcp : mcp σ 3 0 86 0 10 = s := (mcp0 σ 3 86 10 (by omega)).trans hs
  have hck : ∀ o : Option Mem, ckc (0 : Int32) 0 10 10 10 o = o := fun o => ckc0 10 10 10 (by omega) (by omega) (by omega) o
  have main : ∃ σ', fX3_tryOut 86 σ (nI j) = some σ' ∧ (∀ v, v < n → σ' 86 v = aft p kd a b c v) := by
    unfold fX3_tryOut
    simp only [lt, ck_i hj (show 375 ≤ 1000000 by omega), cl_i (show j ≤ 1000000 by omega), hck, hmcp, sn 100 (by decide), sn 3 (by decide), sn 2 (by decide), h0, h1, h2, ck_i (show a < 10 by omega) (show 10 ≤ 1000000 by omega), cl_i (show a ≤ 1000000 by omega)]
    match kd, m0 with
    | 0, _ =>
      rw [if_pos (show nI 0 = (0 : Int32) from rfl)]
      refine ⟨_, rfl, fun v hv => ?_⟩
      rw [mst_at]
      exact upd_cong _ (fun _ => r0 v hv)
    | 1, _ =>
      have hb := m3 rfl
      rw [if_neg (by decide), if_pos (show nI 1 = (1 : Int32) from rfl)]
      simp only [ck_i (show b < 10 by omega) (show 10 ≤ 1000000 by omega), cl_i (show b ≤ 1000000 by omega)]
      refine ⟨_, rfl, fun v hv => ?_⟩
      rw [mst_at, mst_at, mst_ne _ _ _ (by decide : (3 : Nat) ≠ 86), sn 3 (by decide), e3 a m1, e3 b hb]
      exact upd_cong _ (fun _ => upd_cong _ (fun _ => r0 v hv))
    | 2, _ =>
      have hb := m4 rfl
      rw [if_neg (by decide), if_neg (by decide), if_pos (show nI 2 = (2 : Int32) from rfl)]
      have hb' : nI b = 0 ∨ nI b = 1 := by
        have : b = 0 ∨ b = 1 := by omega
        rcases this with rfl | rfl
        · exact Or.inl rfl
        · exact Or.inr rfl
      have hsh := shi_x s (x := p 1 a) (sz := p 0 a) hb'
      unfold fX3_tryOut_L142
      simp only [lt, ck_i (show a < 10 by omega) (show 10 ≤ 1000000 by omega), cl_i (show a ≤ 1000000 by omega), e3 a m1, e2 a m1]
      by_cases cb : nI b = 1
      · rw [if_pos cb]
        rw [if_pos cb] at hsh
        rw [hsh, bd_some]
        refine ⟨_, rfl, fun v hv => ?_⟩
        rw [mst_at]
        exact upd_cong _ (fun _ => r0 v hv)
      · rw [if_neg cb]
        rw [if_neg cb] at hsh
        rw [hsh, bd_some]
        refine ⟨_, rfl, fun v hv => ?_⟩
        rw [mst_at]
        exact upd_cong _ (fun _ => r0 v hv)
    | 3, _ =>
      obtain ⟨hb, hc⟩ := m5 rfl
      rw [if_neg (by decide), if_neg (by decide), if_neg (by decide), if_pos (show nI 3 = (3 : Int32) from rfl)]
      simp only [h3 rfl, ck_i (show b < 10 by omega) (show 10 ≤ 1000000 by omega), cl_i (show b ≤ 1000000 by omega), ck_i (show c < 10 by omega) (show 10 ≤ 1000000 by omega), cl_i (show c ≤ 1000000 by omega)]
      refine ⟨_, rfl, fun v hv => ?_⟩
      simp only [mst_at, mst_ne _ _ _ (show (3 : Nat) ≠ 86 by decide), sn 3 (by decide), e3 a m1, e3 b hb, e3 c hc]
      exact upd_cong _ (fun _ => upd_cong _ (fun _ => upd_cong _ (fun _ => r0 v hv)))
  obtain ⟨σ', e, hr⟩ := main
  exact ⟨σ', e, hr, fq_X3_tryOut e⟩
theorem xafter {σ : Mem} {p : Nat → Nat → Int32} {n k j kd a b c : Nat} (hv : vld p n k) (hx : isX 1 σ p n k) (hj : j < 375) (hm : mvV n kd a b c) (hb : bstOk p n (aft p kd a b c)) (h0 : σ 100 j = nI kd) (h1 : σ 101 j = nI a) (h2 : σ 102 j = nI b) (h3 : kd = 3 → σ 103 j = nI c) : ∃ σ', fX8_costAfter σ (nI j) = some (cst p (aft p kd a b c) n k, σ') ∧ (∀ v, v < n → σ' 86 v = aft p kd a b c v) ∧ Ag (fun c _ => c = 8 ∨ c = 86) σ σ' := by
  obtain ⟨σ1, e1, r1, a1⟩ := xtry hv hx hj hm h0 h1 h2 h3
  obtain ⟨σ2, e2, a2⟩ := xcostP (q := 86) (by decide) hv (isX_ag hx a1 (fun _ _ _ => by omega)) r1 (bst_sml hb)
  refine ⟨σ2, ?_, fun v hv => (a2 _ _ (by omega)).trans (r1 v hv), ag_2 a1 (fun _ _ h => Or.inr h) a2 (fun _ _ h => Or.inl h)⟩
  unfold fX8_costAfter
  rw [e1, bv_some, e2, bd_some]
theorem mft_loop {τ : Mem} {n : Nat} (hn : n ≤ 10) (h7 : τ 124 7 = nI n) (l1 l2 l3 l4 : Int32) : ∀ (j i : Nat), i + j = n → ∀ N, j < N → ∃ N', fX10_findThen_L3 N (mw τ 144 (cpyF (τ 126) (τ 144) i)) l1 l2 l3 l4 (nI i) = fX10_findThen_B3 (fX10_findThen_L3 N') (mw τ 144 (cpyF (τ 126) (τ 144) n)) l1 l2 l3 l4 (nI n) := by
  intro j
  induction j with
  | zero =>
    intro i hi N hN
    obtain ⟨N, rfl, hN⟩ := nsub1 hN
    have e : i = n := by omega
    subst e
    exact ⟨N, rfl⟩
  | succ j ih =>
    intro i hi N hN
    obtain ⟨N, rfl, hN⟩ := nsub1 hN
    obtain ⟨N', e⟩ := ih (i + 1) (by omega) N (by omega)
    refine ⟨N', ?_⟩
    rw [← e]
    have step : ∀ s, s 124 7 = nI n → fX10_findThen_B3 (fX10_findThen_L3 N) s l1 l2 l3 l4 (nI i) = fX10_findThen_L3 N (mst s 144 i (s 126 i)) l1 l2 l3 l4 (nI (i + 1)) := fun s hs => by
      unfold fX10_findThen_B3
      simp only [lt]
      rw [hs, if_neg (fun h => absurd ((le_i (by omega) (by omega)).1 h) (by omega)), ck_i (by omega) (by omega), ck_i (by omega) (by omega), cl_i (by omega), nI_s]
    rw [show fX10_findThen_L3 (N + 1) = fX10_findThen_B3 (fX10_findThen_L3 N) from rfl, step _ (by rw [mw_ne _ _ (by decide)]; exact h7), mst_mw, mw_ne _ _ (by decide : (126 : Nat) ≠ 144), cpy_s]
theorem mft {τ : Mem} {p : Nat → Nat → Int32} {n k kd a b c : Nat} {cI : Int32} (hv : vld p n k) (hx : isM τ p n k) (hm : mvV n kd a b c) (h3 : kd = 3 → cI = nI c) : ∃ τ', fX10_findThen τ (nI kd) (nI a) (nI b) cI = some τ' ∧ (∀ v, v < n → τ' 144 v = aft p kd a b c v) ∧ Ag (fun c _ => c = 144) τ τ' := by
  have hn := hv.1
  obtain ⟨m0, m1, m2, m3, m4, m5⟩ := hm
  obtain ⟨⟨x1, x2, x3, x4⟩, x5⟩ := hx
  obtain ⟨N', eN⟩ := mft_loop hn x1 (nI kd) (nI a) (nI b) cI n 0 (by omega) FU (FU_lt (by omega))
  rw [cpy_0, mw_self] at eN
  generalize hs : mw τ 144 (cpyF (τ 126) (τ 144) n) = s at eN
  have s4 : s 144 = cpyF (τ 126) (τ 144) n := by rw [← hs, mw_at]
  have sn : ∀ c, c ≠ 144 → s c = τ c := fun c hc => by rw [← hs, mw_ne _ _ hc]
  have r0 : ∀ v, v < n → s 144 v = p 1 v := fun v hv => by rw [s4]; exact (if_pos hv).trans (x5 v hv)
  have e0 : fX10_findThen τ (nI kd) (nI a) (nI b) cI = fX10_findThen_B3 (fX10_findThen_L3 N') s (nI kd) (nI a) (nI b) cI (nI n) := eN
  have main : ∃ τ', fX10_findThen τ (nI kd) (nI a) (nI b) cI = some τ' ∧ (∀ v, v < n → τ' 144 v = aft p kd a b c v) := by
    rw [e0]
    clear e0 eN
    unfold fX10_findThen_B3
    rw [sn 124 (by decide), x1, if_pos ((le_i (by omega) (by omega)).2 (Nat.le_refl _))]
    unfold fX10_findThen_L43 fX10_findThen_L72 fX10_findThen_L114 fX10_findThen_L105
    simp only [lt, ck_i (show a < 10 by omega) (show 10 ≤ 1000000 by omega), cl_i (show a ≤ 1000000 by omega)]
    match kd, m0 with
    | 0, _ =>
      rw [if_pos (show nI 0 = (0 : Int32) from rfl), if_neg (by decide), if_neg (by decide), if_neg (by decide)]
      refine ⟨_, rfl, fun v hv => ?_⟩
      rw [mst_at]
      exact upd_cong _ (fun _ => r0 v hv)
    | 1, _ =>
      have hb := m3 rfl
      rw [if_neg (by decide), if_pos (show nI 1 = (1 : Int32) from rfl)]
      simp only [ck_i (show b < 10 by omega) (show 10 ≤ 1000000 by omega), cl_i (show b ≤ 1000000 by omega)]
      rw [if_neg (by decide), if_neg (by decide)]
      refine ⟨_, rfl, fun v hv => ?_⟩
      rw [mst_at, mst_at, mst_ne _ _ _ (by decide : (126 : Nat) ≠ 144), sn 126 (by decide), x5 a m1, x5 b hb]
      exact upd_cong _ (fun _ => upd_cong _ (fun _ => r0 v hv))
    | 2, _ =>
      have hb := m4 rfl
      obtain ⟨sz, w, hz1, hz2, hz3, hz4, hz5⟩ := hv.2.2.1 a m1
      obtain ⟨g1, g2⟩ := shi_m sz hz2 w hz3
      have : b = 0 ∨ b = 1 := by omega
      rcases this with rfl | rfl
      · rw [if_neg (by decide), if_neg (by decide), if_pos (show nI 2 = (2 : Int32) from rfl), if_neg (show ¬ nI 0 = (1 : Int32) by decide), sn 125 (by decide), sn 126 (by decide), x3 a m1, x5 a m1, hz4, hz5]
        unfold ckn fX10_findThen_L114
        rw [if_neg (nI_ne0 (n := sz) (by omega) (by omega)), if_neg (by decide), g2]
        refine ⟨_, rfl, fun v hv => ?_⟩
        rw [mst_at]
        refine upd_cong2 (fun _ => r0 v hv) ?_
        rw [hz4, hz5]
        rfl
      · rw [if_neg (by decide), if_neg (by decide), if_pos (show nI 2 = (2 : Int32) from rfl), if_pos (show nI 1 = (1 : Int32) from rfl), sn 125 (by decide), sn 126 (by decide), x3 a m1, x5 a m1, hz4, hz5]
        unfold ckn fX10_findThen_L114
        rw [if_neg (nI_ne0 (n := sz) (by omega) (by omega)), if_neg (by decide), g1]
        refine ⟨_, rfl, fun v hv => ?_⟩
        rw [mst_at]
        refine upd_cong2 (fun _ => r0 v hv) ?_
        rw [hz4, hz5]
        rfl
    | 3, _ =>
      obtain ⟨hb, hc⟩ := m5 rfl
      rw [h3 rfl]
      rw [if_neg (by decide), if_neg (by decide), if_neg (by decide), if_pos (show nI 3 = (3 : Int32) from rfl)]
      simp only [ck_i (show b < 10 by omega) (show 10 ≤ 1000000 by omega), cl_i (show b ≤ 1000000 by omega), ck_i (show c < 10 by omega) (show 10 ≤ 1000000 by omega), cl_i (show c ≤ 1000000 by omega)]
      refine ⟨_, rfl, fun v hv => ?_⟩
      simp only [mst_at, mst_ne _ _ _ (show (126 : Nat) ≠ 144 by decide), sn 126 (by decide), x5 a m1, x5 b hb, x5 c hc]
      exact upd_cong _ (fun _ => upd_cong _ (fun _ => upd_cong _ (fun _ => r0 v hv)))
  obtain ⟨τ', e, hr⟩ := main
  exact ⟨τ', e, hr, fq_X10_findThen e⟩
-- held
def hldv (U : Nat → Nat → Nat) (it : Nat) (p : Nat → Nat → Int32) (row : Nat → Int32) : Nat → Bool
  | 0 => false
  | v + 1 => hldv U it p row v || (!(decide (row v = p 1 v)) && decide (it < U v (row v).toNatClampNeg))
def hI (U : Nat → Nat → Nat) (it : Nat) (p : Nat → Nat → Int32) (n k : Nat) (bc : Int32) (row : Nat → Int32) : Int32 := if bc ≤ cst p row n k then (if hldv U it p row n = true then 1 else 0) else 0
theorem hldv_mono {U : Nat → Nat → Nat} {it : Nat} {p : Nat → Nat → Int32} {row : Nat → Int32} {v : Nat} (h : hldv U it p row v = true) : ∀ j, hldv U it p row (v + j) = true
  | 0 => h
  | j + 1 => by
    show (hldv U it p row (v + j) || _) = true
    rw [hldv_mono h j]; rfl
theorem xhl_loop {σ : Mem} {p : Nat → Nat → Int32} {n k it : Nat} {U : Nat → Nat → Nat} {row : Nat → Int32} (hv : vld p n k) (hx : isX 1 σ p n k) (hr : ∀ v, v < n → σ 86 v = row v) (hs : ∀ v, v < n → sml (row v)) (hi : σ 84 7 = nI it) (hit : it ≤ 100000) (hU : ∀ v a, v < 10 ∧ v < n → a < 8 → U v a ≤ it + 21 ∧ σ (88 + v) a = nI (U v a)) : ∀ (j v : Nat), v + j = n → ∀ N, j < N → hldv U it p row v = false → fX8_isTrialHeld_L12 N σ (nI v) = some (if hldv U it p row n = true then 1 else 0, σ) := by
  have hn := hv.1
  intro j
  induction j with
  | zero =>
    intro v hv' N hN h0
    obtain ⟨N, rfl, hN⟩ := nsub1 hN
    have e : v = n := by omega
    subst e
    rw [show fX8_isTrialHeld_L12 (N + 1) = fX8_isTrialHeld_B12 (fX8_isTrialHeld_L12 N) from rfl]
    unfold fX8_isTrialHeld_B12
    rw [hx.1, if_pos ((le_i (by omega) (by omega)).2 (Nat.le_refl _)), h0, if_neg (by decide)]
  | succ j ih =>
    intro v hv' N hN h0
    obtain ⟨N, rfl, hN⟩ := nsub1 hN
    have e1 : hldv U it p row (v + 1) = (hldv U it p row v || (!(decide (row v = p 1 v)) && decide (it < U v (row v).toNatClampNeg))) := rfl
    rw [show fX8_isTrialHeld_L12 (N + 1) = fX8_isTrialHeld_B12 (fX8_isTrialHeld_L12 N) from rfl]
    unfold fX8_isTrialHeld_B12 fX8_isTrialHeld_L51 fX8_isBanned
    simp only [ck_i (show v < 10 by omega) (show 10 ≤ 1000000 by omega), cl_i (show v ≤ 1000000 by omega)]
    rw [hx.1, if_neg (fun h => absurd ((le_i (by omega) (by omega)).1 h) (by omega)), hr v (by omega), show σ 3 v = p 1 v from (hx.2.2.1 v (by omega)).2, nI_s]
    by_cases c : row v = p 1 v
    · rw [if_pos c]
      exact ih (v + 1) (by omega) N (by omega) (by rw [e1, h0, decide_eq_true c]; rfl)
    · rw [if_neg c]
      obtain ⟨w, hw, ew⟩ := hs v (by omega)
      obtain ⟨u1, u2⟩ := hU v w (by omega) hw
      rw [ew] at e1
      rw [cl_i (by omega)] at e1
      rw [ew, ck_i hw (by omega), cl_i (by omega), Nat.one_mul, u2, hi]
      by_cases d : U v w ≤ it
      · rw [if_pos ((le_i (by omega) (by omega)).2 d), bd_some, if_pos rfl]
        exact ih (v + 1) (by omega) N (by omega) (by rw [e1, h0, decide_eq_false (show ¬ it < U v w by omega), Bool.and_false]; rfl)
      · rw [if_neg (fun hh => d ((le_i (by omega) (by omega)).1 hh)), bd_some, if_neg (by decide)]
        have h1 : hldv U it p row (v + 1) = true := by
          rw [e1, h0, decide_eq_true (show it < U v w by omega), ← ew, decide_eq_false c]; rfl
        have h2 := hldv_mono h1 j
        rw [show v + 1 + j = n by omega] at h2
        rw [if_pos h2]
theorem xheld {σ : Mem} {p : Nat → Nat → Int32} {n k it : Nat} {U : Nat → Nat → Nat} {row : Nat → Int32} {bc : Int32} (hv : vld p n k) (hx : isX 1 σ p n k) (hr : ∀ v, v < n → σ 86 v = row v) (hs : ∀ v, v < n → sml (row v)) (hi : σ 84 7 = nI it) (hit : it ≤ 100000) (hU : ∀ v a, v < 10 ∧ v < n → a < 8 → U v a ≤ it + 21 ∧ σ (88 + v) a = nI (U v a)) (hb : σ 84 5 = bc) : fX8_isTrialHeld σ (cst p row n k) = some (hI U it p n k bc row, σ) := by
  have hn := hv.1
  unfold fX8_isTrialHeld hI
  rw [hb]
  by_cases c : bc ≤ cst p row n k
  · rw [if_pos c, if_pos c]
    exact xhl_loop hv hx hr hs hi hit hU n 0 (by omega) FU (FU_lt (by omega)) rfl
  · rw [if_neg c, if_neg c]
