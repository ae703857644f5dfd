/-! PURE, 22: blame, relief, best, settings, text, log -/
def mbl (p : Nat → Nat → Int32) (n k : Nat) : Nat → Int32 × Int32
  | 0 => (-1, 0)
  | v + 1 => if cfl p (p 1) n v k ≤ (mbl p n k v).2 then mbl p n k v else (nI v, cfl p (p 1) n v k)
theorem mbl_1 (p : Nat → Nat → Int32) (n k : Nat) : ∀ v, (mbl p n k v).1 = -1 ∨ ∃ u, u < v ∧ (mbl p n k v).1 = nI u
  | 0 => Or.inl rfl
  | v + 1 => by
    show (if cfl p (p 1) n v k ≤ (mbl p n k v).2 then mbl p n k v else (nI v, cfl p (p 1) n v k)).1 = -1 ∨ ∃ u, u < v + 1 ∧ (if cfl p (p 1) n v k ≤ (mbl p n k v).2 then mbl p n k v else (nI v, cfl p (p 1) n v k)).1 = nI u
    by_cases h : cfl p (p 1) n v k ≤ (mbl p n k v).2
    · rw [if_pos h]
      rcases mbl_1 p n k v with h2 | ⟨u, hu, h2⟩
      · exact Or.inl h2
      · exact Or.inr ⟨u, by omega, h2⟩
    · rw [if_neg h]
      exact Or.inr ⟨v, by omega, rfl⟩
theorem xbl_loop {σ : Mem} {p : Nat → Nat → Int32} {n k : Nat} (hv : vld p n k) (hx : isX 1 σ p n k) : ∀ (j v : Nat), v + j = n → ∀ N, j < N → ∀ σ', A8 σ σ' → ∃ σ2, fX9_mostBlamed_L6 N σ' (mbl p n k v).1 (mbl p n k v).2 (nI v) = (if (mbl p n k n).1 = -1 then some (.inr "java/util/NoSuchElementException", σ2) else some (.inl (mbl p n k n).1, σ2)) ∧ A8 σ σ2 := by
  have hn := hv.1
  intro j
  induction j with
  | zero =>
    intro v hv' N hN σ' a
    obtain ⟨N, rfl, hN⟩ := nsub1 hN
    have e : v = n := by omega
    subst e
    have hx' := isX_ag hx a (fun _ _ _ => by omega)
    refine ⟨σ', ?_, a⟩
    rw [show fX9_mostBlamed_L6 (N + 1) = fX9_mostBlamed_B6 (fX9_mostBlamed_L6 N) from rfl]
    unfold fX9_mostBlamed_B6
    rw [hx'.1, if_pos ((le_i (by omega) (by omega)).2 (Nat.le_refl _))]
  | succ j ih =>
    intro v hv' N hN σ' a
    obtain ⟨N, rfl, hN⟩ := nsub1 hN
    have hx' := isX_ag hx a (fun _ _ _ => by omega)
    obtain ⟨σ1, e1, a1⟩ := xcf_eq v hv hx'
    obtain ⟨σ2, e2, a2⟩ := ih (v + 1) (by omega) N (by omega) σ1 (a8_t a a1)
    refine ⟨σ2, ?_, a2⟩
    rw [show fX9_mostBlamed_L6 (N + 1) = fX9_mostBlamed_B6 (fX9_mostBlamed_L6 N) from rfl]
    unfold fX9_mostBlamed_B6 fX9_mostBlamed_L38
    rw [hx'.1, if_neg (fun h => absurd ((le_i (by omega) (by omega)).1 h) (by omega)), e1, bd_some, nI_s, ← e2]
    rw [show mbl p n k (v + 1) = if cfl p (p 1) n v k ≤ (mbl p n k v).2 then mbl p n k v else (nI v, cfl p (p 1) n v k) from rfl]
    by_cases h : cfl p (p 1) n v k ≤ (mbl p n k v).2
    · rw [if_pos h, if_pos h]
    · rw [if_neg h, if_neg h]
theorem mbl_loop {τ : Mem} {p : Nat → Nat → Int32} {n k : Nat} (hv : vld p n k) (hx : isM τ p n k) : ∀ (j v : Nat), v + j = n → ∀ N, j < N → ∀ τ', A131 τ τ' → ∃ τ2, fX10_mostBlamed_L6 N τ' (mbl p n k v).1 (mbl p n k v).2 (nI v) = (if 0 ≤ (mbl p n k n).1 then some ((mbl p n k n).1, mst τ2 124 0 0) else some (0, mst τ2 124 0 1)) ∧ A131 τ τ2 := by
  have hn := hv.1
  intro j
  induction j with
  | zero =>
    intro v hv' N hN τ' a
    obtain ⟨N, rfl, hN⟩ := nsub1 hN
    have e : v = n := by omega
    subst e
    have hx' := isM_ag hx a (fun _ _ _ => by omega)
    refine ⟨τ', ?_, a⟩
    rw [show fX10_mostBlamed_L6 (N + 1) = fX10_mostBlamed_B6 (fX10_mostBlamed_L6 N) from rfl]
    unfold fX10_mostBlamed_B6
    simp only [lt]
    rw [hx'.1.1, if_pos ((le_i (by omega) (by omega)).2 (Nat.le_refl _)), m_fails, bd_some]
  | succ j ih =>
    intro v hv' N hN τ' a
    obtain ⟨N, rfl, hN⟩ := nsub1 hN
    have hx' := isM_ag hx a (fun _ _ _ => by omega)
    obtain ⟨τ1, e1, a1⟩ := mcf_eq v hv hx'
    obtain ⟨τ2, e2, a2⟩ := ih (v + 1) (by omega) N (by omega) τ1 (a131_t a a1)
    refine ⟨τ2, ?_, a2⟩
    rw [show fX10_mostBlamed_L6 (N + 1) = fX10_mostBlamed_B6 (fX10_mostBlamed_L6 N) from rfl]
    unfold fX10_mostBlamed_B6 fX10_mostBlamed_L32 fX10_mostBlamed_L45
    rw [hx'.1.1, if_neg (fun h => absurd ((le_i (by omega) (by omega)).1 h) (by omega)), e1, bd_some, nI_s, ← e2]
    rw [show mbl p n k (v + 1) = if cfl p (p 1) n v k ≤ (mbl p n k v).2 then mbl p n k v else (nI v, cfl p (p 1) n v k) from rfl]
    by_cases h : cfl p (p 1) n v k ≤ (mbl p n k v).2
    · rw [if_pos h, if_pos h, if_pos h]
    · rw [if_neg h, if_neg h, if_neg h]
theorem nI_m1 {u : Nat} (hu : u ≤ 1000000) : ¬ nI u = -1 := fun h => by
  have := nI_pos' (n := u) (by omega)
  rw [h] at this
  exact absurd this (by decide)
theorem S_mostBlamed : Sim wL_mostBlamed fX10_mostBlamed := by
  intro B σ τ hB h
  have h00 := h
  obtain ⟨p, n, k, bs, U, it, h⟩ := h
  have hr := h.2.1
  have hn := hr.1.1
  obtain ⟨σ1, e1, a1⟩ := xbl_loop hr.1 hr.2.1 n 0 (by omega) FU (FU_lt (by omega)) σ ag_r
  obtain ⟨τ1, e2, a2⟩ := mbl_loop hr.1 hr.2.2 n 0 (by omega) FU (FU_lt (by omega)) τ ag_r
  have e1' : fX9_mostBlamed σ = _ := e1
  have e2' : fX10_mostBlamed τ = _ := e2
  rcases mbl_1 p n k n with h2 | ⟨u, hu, h2⟩
  · rw [h2, if_pos rfl] at e1'
    rw [h2, if_neg (by decide)] at e2'
    refine ⟨1, σ1, 0, _, ?_, e2', RR_mono (RR_tr h00 a1 (fun _ _ _ _ => by omega) (ag_2 (W2 := fun c i => c = 124 ∧ i = 0 ∨ c = 131) a2 (fun _ _ h => Or.inr h) (a_m0 τ1 1) (fun _ _ h => Or.inl h)) (fun _ _ _ _ _ => by omega)) (by omega), m00 _ _, fun h => absurd h (by decide)⟩
    unfold wL_mostBlamed
    rw [e1', bx_inr, if_pos rfl]
  · rw [h2, if_neg (nI_m1 (by omega))] at e1'
    rw [h2, if_pos (nI_pos' (by omega))] at e2'
    refine q_ok h00 (nI u) a1 (fun _ _ _ _ => by omega) (ag_2 (W2 := fun c i => c = 124 ∧ i = 0 ∨ c = 131) a2 (fun _ _ h => Or.inr h) (a_m0 τ1 0) (fun _ _ h => Or.inl h)) (fun _ _ _ _ _ => by omega) ?_ e2' (m00 _ _)
    unfold wL_mostBlamed
    rw [e1', bx_inl]
def rlv (z : Int32) (p : Nat → Nat → Int32) (n k v : Nat) : Nat → Int32
  | 0 => z
  | u + 1 => if nI u = p 1 v then rlv z p n k v u else if cst p (upd (p 1) v (nI u)) n k < rlv z p n k v u then cst p (upd (p 1) v (nI u)) n k else rlv z p n k v u
theorem upd_sml {p : Nat → Nat → Int32} {n k v u s : Nat} (hv : vld p n k) (hu : u < s) (hs : s ≤ 8) : ∀ w, w < n → sml (upd (p 1) v (nI u) w) := fun w hw => by
  by_cases e : w = v
  · rw [e, upd_at]; exact ⟨u, by omega, rfl⟩
  · rw [upd_ne _ _ e]; exact vld_sml hv w hw
/-- two greatest costs to begin with: the same least -/
theorem rlv_z {p : Nat → Nat → Int32} {n k v s : Nat} (hv : vld p n k) (hs8 : s ≤ 8) (h2 : 2 ≤ s) : rlv 1000000 p n k v s = rlv 2147483647 p n k v s := by
  have hn := hv.1
  have hk := hv.2.1
  have H : ∀ u, u ≤ s → rlv 1000000 p n k v u = rlv 2147483647 p n k v u ∨ (rlv 1000000 p n k v u = 1000000 ∧ rlv 2147483647 p n k v u = 2147483647 ∧ ∀ w, w < u → nI w = p 1 v) := by
    intro u
    induction u with
    | zero => exact fun _ => Or.inr ⟨rfl, rfl, fun w hw => absurd hw (by omega)⟩
    | succ u ih =>
      intro hu
      have e0 : ∀ z, rlv z p n k v (u + 1) = if nI u = p 1 v then rlv z p n k v u else if cst p (upd (p 1) v (nI u)) n k < rlv z p n k v u then cst p (upd (p 1) v (nI u)) n k else rlv z p n k v u := fun _ => rfl
      rw [e0, e0]
      by_cases c : nI u = p 1 v
      · rw [if_pos c, if_pos c]
        rcases ih (by omega) with g | ⟨g1, g2, g3⟩
        · exact Or.inl g
        · exact Or.inr ⟨g1, g2, fun w hw => by
            by_cases e : w = u
            · rw [e]; exact c
            · exact g3 w (by omega)⟩
      · rw [if_neg c, if_neg c]
        left
        rcases ih (by omega) with g | ⟨g1, g2, g3⟩
        · rw [g]
        · obtain ⟨a, ha, ea⟩ := cst_b hn (upd_sml (v := v) hv (show u < s by omega) hs8) k (fun c hc => ⟨(hv.2.2.2 c hc).2.2.1, (hv.2.2.2 c hc).2.2.2⟩)
          rw [g1, g2, ea, if_pos (show nI a < (1000000 : Int32) from (nI_ltI (b := 1000000) (by omega) (by omega)).2 (by omega)), if_pos (show nI a < (2147483647 : Int32) from (nI_ltI (b := 2147483647) (by omega) (by omega)).2 (by omega))]
  rcases H s (Nat.le_refl s) with g | ⟨g1, g2, g3⟩
  · exact g
  · exact absurd ((g3 0 (by omega)).trans (g3 1 (by omega)).symm) (by decide)
theorem xrl_loop (z : Int32) {σ : Mem} {p : Nat → Nat → Int32} {n k v s : Nat} (hv : vld p n k) (hx : isX 1 σ p n k) (hvn : v < n) (hs : p 0 v = nI s) (hs8 : s ≤ 8) : ∀ (j u : Nat), u + j = s → ∀ N, j < N → ∀ σ', Ag (fun c _ => c = 8 ∨ c = 86) σ σ' → (∀ w, w < n → w ≠ v → σ' 86 w = p 1 w) → ∃ σ2, fX8_reliefOf_L21 N σ' (nI v) (rlv z p n k v u) (nI u) = some (cst p (p 1) n k - rlv z p n k v s, σ2) ∧ Ag (fun c _ => c = 8 ∨ c = 86) σ σ2 := by
  have hn := hv.1
  intro j
  induction j with
  | zero =>
    intro u hu N hN σ' a hw
    obtain ⟨N, rfl, hN⟩ := nsub1 hN
    have e : u = s := by omega
    subst e
    have hx' := isX_ag hx a (fun _ _ _ => by omega)
    obtain ⟨σ1, e1, a1⟩ := xpres hv hx'
    refine ⟨σ1, ?_, ag_2 a (fun _ _ h => h) a1 (fun _ _ h => Or.inl h)⟩
    rw [show fX8_reliefOf_L21 (N + 1) = fX8_reliefOf_B21 (fX8_reliefOf_L21 N) from rfl]
    unfold fX8_reliefOf_B21
    rw [ck_i (by omega) (by omega), cl_i (by omega), show σ' 2 v = nI u from ((hx'.2.2.1 v hvn).1).trans hs, if_pos ((le_i (by omega) (by omega)).2 (Nat.le_refl _)), e1, bd_some]
  | succ j ih =>
    intro u hu N hN σ' a hw
    obtain ⟨N, rfl, hN⟩ := nsub1 hN
    have hx' := isX_ag hx a (fun _ _ _ => by omega)
    have h2 : σ' 2 v = nI s := ((hx'.2.2.1 v hvn).1).trans hs
    have h3 : σ' 3 v = p 1 v := (hx'.2.2.1 v hvn).2
    have e0 : rlv z p n k v (u + 1) = if nI u = p 1 v then rlv z p n k v u else if cst p (upd (p 1) v (nI u)) n k < rlv z p n k v u then cst p (upd (p 1) v (nI u)) n k else rlv z p n k v u := rfl
    by_cases c : nI u = p 1 v
    · obtain ⟨σ2, e2, a2⟩ := ih (u + 1) (by omega) N (by omega) σ' a hw
      refine ⟨σ2, ?_, a2⟩
      rw [show fX8_reliefOf_L21 (N + 1) = fX8_reliefOf_B21 (fX8_reliefOf_L21 N) from rfl]
      unfold fX8_reliefOf_B21 fX8_reliefOf_L64
      rw [ck_i (by omega) (by omega), ck_i (by omega) (by omega), cl_i (by omega), h2, if_neg (fun h => absurd ((le_i (by omega) (by omega)).1 h) (by omega)), h3, if_pos c, nI_s, ← e2, e0, if_pos c]
    · have a0 : Ag (fun c _ => c = 8 ∨ c = 86) σ (mst σ' 86 v (nI u)) := ag_2 a (fun _ _ h => h) (ag_mst _ _ (W := fun c _ => c = 86) rfl) (fun _ _ h => Or.inr h)
      have hx0 := isX_ag hx a0 (fun _ _ _ => by omega)
      obtain ⟨σ1, e1, a1⟩ := xcostP (q := 86) (by decide) hv hx0 (row := upd (p 1) v (nI u)) (fun w hw' => by rw [mst_at]; exact upd_cong _ (fun e => hw w hw' e)) (upd_sml (s := s) hv (by omega) hs8)
      obtain ⟨σ2, e2, a2⟩ := ih (u + 1) (by omega) N (by omega) σ1 (ag_2 a0 (fun _ _ h => h) a1 (fun _ _ h => Or.inl h)) (fun w hw' e => (a1 _ _ (by omega)).trans (by rw [mst_at, upd_ne _ _ e]; exact hw w hw' e))
      refine ⟨σ2, ?_, a2⟩
      rw [show fX8_reliefOf_L21 (N + 1) = fX8_reliefOf_B21 (fX8_reliefOf_L21 N) from rfl]
      unfold fX8_reliefOf_B21 fX8_reliefOf_L64
      simp only [lt, li]
      rw [ck_i (by omega) (by omega), ck_i (by omega) (by omega), ck_i (by omega) (by omega), cl_i (by omega), h2, if_neg (fun h => absurd ((le_i (by omega) (by omega)).1 h) (by omega)), h3, if_neg c, e1, bd_some, nI_s, ← e2, e0, if_neg c]
theorem mrl_loop (z : Int32) {τ : Mem} {p : Nat → Nat → Int32} {n k v s : Nat} (hv : vld p n k) (hx : isM τ p n k) (hvn : v < n) (hs : p 0 v = nI s) (hs8 : s ≤ 8) (h13 : τ 124 13 = cst p (p 1) n k) : ∀ (j u : Nat), u + j = s → ∀ N, j < N → ∀ τ', Ag (fun c i => c = 126 ∧ i = v ∨ c = 131) τ τ' → ∃ τ2, fX10_relief_L32 N τ' (nI v) (p 1 v) (rlv z p n k v u) (nI u) = some (cst p (p 1) n k - rlv z p n k v s, τ2) ∧ A131 τ τ2 := by
  have hn := hv.1
  intro j
  induction j with
  | zero =>
    intro u hu N hN τ' a
    obtain ⟨N, rfl, hN⟩ := nsub1 hN
    have e : u = s := by omega
    subst e
    have hx' := isM0_ag hx.1 a (fun _ _ _ => by omega)
    refine ⟨mst τ' 126 v (p 1 v), ?_, fun c i hc => ?_⟩
    · rw [show fX10_relief_L32 (N + 1) = fX10_relief_B32 (fX10_relief_L32 N) from rfl]
      unfold fX10_relief_B32
      simp only [lt]
      rw [ck_i (by omega) (by omega), ck_i (by omega) (by omega), cl_i (by omega), show τ' 125 v = nI u from (hx'.2.2.1 v hvn).trans hs, if_pos ((le_i (by omega) (by omega)).2 (Nat.le_refl _)), mst_ne _ _ _ (by decide : (124 : Nat) ≠ 126), a _ _ (by omega), h13]
    · by_cases c1 : c = 126
      · subst c1
        by_cases c2 : i = v
        · subst c2; rw [mst_at, upd_at]; exact (hx.2 i hvn).symm
        · rw [mst_at, upd_ne _ _ c2]; exact a _ _ (by omega)
      · rw [mst_ne _ _ _ c1]; exact a _ _ (by omega)
  | succ j ih =>
    intro u hu N hN τ' a
    obtain ⟨N, rfl, hN⟩ := nsub1 hN
    have hx' := isM0_ag hx.1 a (fun _ _ _ => by omega)
    have h2 : τ' 125 v = nI s := (hx'.2.2.1 v hvn).trans hs
    have e0 : rlv z p n k v (u + 1) = if nI u = p 1 v then rlv z p n k v u else if cst p (upd (p 1) v (nI u)) n k < rlv z p n k v u then cst p (upd (p 1) v (nI u)) n k else rlv z p n k v u := rfl
    by_cases c : nI u = p 1 v
    · obtain ⟨τ2, e2, a2⟩ := ih (u + 1) (by omega) N (by omega) τ' a
      refine ⟨τ2, ?_, a2⟩
      rw [show fX10_relief_L32 (N + 1) = fX10_relief_B32 (fX10_relief_L32 N) from rfl]
      unfold fX10_relief_B32 fX10_relief_L83
      rw [ck_i (by omega) (by omega), cl_i (by omega), h2, if_neg (fun h => absurd ((le_i (by omega) (by omega)).1 h) (by omega)), if_pos c, nI_s, ← e2, e0, if_pos c]
    · have a0 : Ag (fun c i => c = 126 ∧ i = v ∨ c = 131) τ (mst τ' 126 v (nI u)) := ag_2 a (fun _ _ h => h) (ag_mst _ _ (W := fun c i => c = 126 ∧ i = v) ⟨rfl, rfl⟩) (fun _ _ h => Or.inl h)
      have hx0 := isM0_ag hx.1 a0 (fun _ _ _ => by omega)
      obtain ⟨τ1, e1, a1⟩ := mcostP (q := 126) (by decide) hv hx0 (row := upd (p 1) v (nI u)) (fun w hw' => by rw [mst_at]; exact upd_cong _ (fun e => (a _ _ (by omega)).trans (hx.2 w hw'))) (upd_sml (s := s) hv (by omega) hs8)
      obtain ⟨τ2, e2, a2⟩ := ih (u + 1) (by omega) N (by omega) τ1 (ag_2 a0 (fun _ _ h => h) a1 (fun _ _ h => Or.inr h))
      refine ⟨τ2, ?_, a2⟩
      rw [show fX10_relief_L32 (N + 1) = fX10_relief_B32 (fX10_relief_L32 N) from rfl]
      unfold fX10_relief_B32 fX10_relief_L82 fX10_relief_L83
      simp only [lt]
      simp only [ck_i (show v < 10 by omega) (show 10 ≤ 1000000 by omega), cl_i (show v ≤ 1000000 by omega)]
      rw [h2, if_neg (fun h => absurd ((le_i (by omega) (by omega)).1 h) (by omega)), if_neg c, e1, bd_some, nI_s, ← e2, e0, if_neg c]
      by_cases h : rlv z p n k v u ≤ cst p (upd (p 1) v (nI u)) n k
      · rw [if_pos h, if_neg (nl_i h)]
      · rw [if_neg h, if_pos (ln_i h)]
theorem S_relief (a : Int32) : Sim (fun σ => wL_relief σ a) (fun τ => fX10_relief τ a) := by
  intro B σ τ hB h
  dsimp only
  have h00 := h
  obtain ⟨p, n, k, bs, U, it, h⟩ := h
  have hr := h.2.1
  have hn := hr.1.1
  rcases inN n a with ⟨v, hv, rfl⟩ | ha
  · obtain ⟨s, w, hs1, hs2, hw, hz4, hz5⟩ := hr.1.2.2.1 v hv
    have hm : isM (mst τ 124 0 0) p n k := isM_ag hr.2.2 (a_m0 τ 0) (fun _ _ _ => by omega)
    have e0 : mcp σ 3 0 86 0 10 = mw σ 86 (cpyF (σ 3) (σ 86) 10) := mcp0 σ 3 86 10 (by omega)
    obtain ⟨σ1, e1, a1⟩ := xrl_loop 1000000 hr.1 hr.2.1 hv hz4 hs2 s 0 (by omega) FU (FU_lt (by omega)) (mw σ 86 (cpyF (σ 3) (σ 86) 10)) (ag_mw _ _ (fun _ => Or.inr rfl)) (fun w hw _ => by rw [mw_at]; exact (if_pos (by omega)).trans (hr.2.1.2.2.1 w hw).2)
    rw [rlv_z hr.1 hs2 hs1] at e1
    obtain ⟨τ1, e2, a2⟩ := mrl_loop 2147483647 hr.1 hm hv hz4 hs2 ((m0n _ _ (by decide)).trans h.2.2.2.1) s 0 (by omega) FU (FU_lt (by omega)) _ ag_r
    refine q_ok h00 (cst p (p 1) n k - rlv 2147483647 p n k v s) a1 (fun _ _ _ _ => by omega) (ag_2 (W2 := fun c i => c = 124 ∧ i = 0 ∨ c = 131) (a_m0 τ 0) (fun _ _ h => Or.inl h) a2 (fun _ _ h => Or.inr h)) (fun _ _ _ _ _ => by omega) ?_ ?_ ((a2 _ _ (by omega)).trans (m00 _ _))
    · unfold wL_relief fX9_relief fX8_reliefOf
      simp only [lt]
      rw [xvar_ok hn hr.2.1.1 hv, bx_inl, show (10 : Int32) = nI 10 from rfl, ckc0 10 10 10 (by omega) (by omega) (by omega), show mcp σ 3 0 86 0 (nI 10) = _ from e0, show fX8_reliefOf_L21 FU (mw σ 86 (cpyF (σ 3) (σ 86) 10)) (nI v) 1000000 0 = _ from e1, bd_some, bx_inl]
    · unfold fX10_relief
      simp only [lt]
      rw [mvar_ok hn hr.2.2.1.1 hv, bd_some, if_neg (by decide), ck_i (by omega) (by omega), cl_i (by omega), hm.2 v hv]
      exact e2
  · refine q_no h00 1 (by decide) ?_ ?_
    · unfold wL_relief fX9_relief
      rw [xvar_no hn hr.2.1.1 ha, bx_inr, bx_inr, if_pos rfl]
    · unfold fX10_relief
      rw [mvar_no hn hr.2.2.1.1 ha, bd_some, if_pos rfl, m_fails, bd_some]
-- values anew
def pv (p : Nat → Nat → Int32) (r : Nat → Int32) : Nat → Nat → Int32 := fun j => if j = 1 then r else p j
theorem cst_pv (p : Nat → Nat → Int32) (r row : Nat → Int32) (n k : Nat) : cst (pv p r) row n k = cst p row n k := cst_congr (fun _ _ => rfl) k (fun _ _ => ⟨rfl, rfl, rfl, rfl⟩)
theorem vld_pv {p : Nat → Nat → Int32} {n k : Nat} {r : Nat → Int32} (h : vld p n k) (hr : bstOk p n r) : vld (pv p r) n k := ⟨h.1, h.2.1, hr, h.2.2.2⟩
theorem suR_pv {p : Nat → Nat → Int32} {n k : Nat} {r : Nat → Int32} {σ : Mem} (h : suR p n k σ) : suR (pv p r) n k σ := h
theorem bst_pv {p : Nat → Nat → Int32} {n k : Nat} {r bs : Nat → Int32} {σ τ : Mem} (h : bst p n k bs σ τ) : bst (pv p r) n k bs σ τ := by
  obtain ⟨h0, h1, h2, h3⟩ := h
  exact ⟨h0, h1, h2.trans (cst_pv p r bs n k).symm, h3.trans (cst_pv p r bs n k).symm⟩
theorem isX_pv {σ σ' : Mem} {p : Nat → Nat → Int32} {n k : Nat} {r : Nat → Int32} {W : Nat → Nat → Prop} (h : isX 1 σ p n k) (a : Ag W σ σ') (s : ∀ c i, c = 1 ∧ i = 7 ∨ c = 1 ∧ i = 8 ∨ c = 2 ∨ 4 ≤ c ∧ c < 8 → ¬ W c i) (hr : ∀ v, v < n → σ' 3 v = r v) : isX 1 σ' (pv p r) n k := by
  obtain ⟨h1, h2, h3, h4⟩ := h
  refine ⟨(a _ _ (s _ _ (by omega))).trans h1, (a _ _ (s _ _ (by omega))).trans h2, fun v hv => ⟨(a _ _ (s _ _ (by omega))).trans (h3 v hv).1, hr v hv⟩, fun c hc => ?_⟩
  obtain ⟨g1, g2, g3, g4⟩ := h4 c hc
  exact ⟨(a _ _ (s _ _ (by omega))).trans g1, (a _ _ (s _ _ (by omega))).trans g2, (a _ _ (s _ _ (by omega))).trans g3, (a _ _ (s _ _ (by omega))).trans g4⟩
theorem isM_pv {τ τ' : Mem} {p : Nat → Nat → Int32} {n k : Nat} {r : Nat → Int32} {W : Nat → Nat → Prop} (h : isM0 τ p n k) (a : Ag W τ τ') (s : ∀ c i, c = 124 ∧ i = 7 ∨ c = 124 ∧ i = 8 ∨ c = 125 ∨ 127 ≤ c ∧ c < 131 → ¬ W c i) (hr : ∀ v, v < n → τ' 126 v = r v) : isM τ' (pv p r) n k := ⟨isM0_ag (p := p) h a s, hr⟩
theorem mtb_loop (τ : Mem) (x : Int32) : ∀ (j i : Nat), i + j = 10 → ∀ N, j < N → fX10_takeBest_L12 N (mw τ 126 (cpyF (τ 132) (τ 126) i)) x (nI i) = some (x - τ 124 14, mst (mw τ 126 (cpyF (τ 132) (τ 126) 10)) 124 13 (τ 124 14)) := by
  intro j
  induction j with
  | zero =>
    intro i hi N hN
    obtain ⟨N, rfl, hN⟩ := nsub1 hN
    have e : i = 10 := by omega
    subst e
    rw [show fX10_takeBest_L12 (N + 1) = fX10_takeBest_B12 (fX10_takeBest_L12 N) from rfl]
    unfold fX10_takeBest_B12
    simp only [lt]
    rw [if_pos (by decide), mw_ne _ _ (by decide), mst_at, upd_at]
  | succ j ih =>
    intro i hi N hN
    obtain ⟨N, rfl, hN⟩ := nsub1 hN
    rw [show fX10_takeBest_L12 (N + 1) = fX10_takeBest_B12 (fX10_takeBest_L12 N) from rfl]
    unfold fX10_takeBest_B12
    simp only [lt]
    rw [if_neg (show ¬ (10 : Int32) ≤ nI i from fun h => absurd ((le_i (a := 10) (b := i) (by omega) (by omega)).mp h) (by omega)), ck_i (by omega) (by omega), ck_i (by omega) (by omega), cl_i (by omega), mst_mw, mw_ne _ _ (by decide : (132 : Nat) ≠ 126), cpy_s, nI_s]
    exact ih (i + 1) (by omega) N (by omega)
theorem xtake (q : Nat) (σ : Mem) : fX4_takeValues q σ = some (mw σ 3 (cpyF (σ q) (σ 3) 10)) := by
  unfold fX4_takeValues
  simp only [lt]
  rw [show (10 : Int32) = nI 10 from rfl, ckc0 10 10 10 (by omega) (by omega) (by omega), mcp0 _ _ _ _ (by omega)]
theorem lt_eq {γ : Type} (σ : Mem) (K : Mem → γ) : lt σ K = K σ := rfl
theorem mtb_eq (τ : Mem) : fX10_takeBest τ = some (τ 124 13 - τ 124 14, mst (mw (mst τ 124 0 0) 126 (cpyF (τ 132) (τ 126) 10)) 124 13 (τ 124 14)) := by
  have em := mtb_loop (mst τ 124 0 0) (τ 124 13) 10 0 (by omega) FU (FU_lt (by omega))
  rw [cpy_0, mw_self, m0n _ _ (by decide), mst_ne _ _ _ (by decide : (132 : Nat) ≠ 124), mst_ne _ _ _ (by decide : (126 : Nat) ≠ 124), nI_0] at em
  unfold fX10_takeBest
  rw [lt_eq, m0n _ _ (by decide)]
  exact em
theorem S_takeBest : Sim1 fX9_takeBest fX10_takeBest := by
  intro B σ τ hB h
  obtain ⟨p, n, k, bs, U, it, h⟩ := h
  obtain ⟨hb, h1, h2, h3, h4, h5, h6, h7, h8, h9, hA, hC⟩ := h
  have hn := h1.1.1
  obtain ⟨b0, b1, b2, b3⟩ := h2
  obtain ⟨σ1, e1, a1⟩ := xpres h1.1 h1.2.1
  have et := xtake 85 σ1
  generalize hs : mw σ1 3 (cpyF (σ1 85) (σ1 3) 10) = s at et
  have as0 : Ag (fun c _ => c = 3) σ1 s := by rw [← hs]; exact ag_mw _ _ (fun _ => rfl)
  have as : Ag (fun c _ => c = 3 ∨ c = 8) σ s := ag_2 a1 (fun _ _ h => Or.inr h) as0 (fun _ _ h => Or.inl h)
  have r3 : ∀ v, v < n → s 3 v = bs v := fun v hv => by
    rw [← hs, mw_at]
    exact (if_pos (by omega)).trans ((a1 _ _ (by omega)).trans (b1 v hv).1)
  have hxs : isX 1 s (pv p bs) n k := isX_pv h1.2.1 as (fun _ _ _ => by omega) r3
  have hvs : vld (pv p bs) n k := vld_pv h1.1 b0
  obtain ⟨σ2, e2, a2⟩ := xpres hvs hxs
  have e2' : fX4_presentCost s = some (cst p bs n k, σ2) := by rw [e2, show cst (pv p bs) (pv p bs 1) n k = cst p bs n k from cst_pv p bs bs n k]
  have ax : Ag (fun c _ => c = 3 ∨ c = 8) σ σ2 := ag_2 as (fun _ _ h => h) a2 (fun _ _ h => Or.inr h)
  have em := mtb_eq τ
  generalize ht : mst (mw (mst τ 124 0 0) 126 (cpyF (τ 132) (τ 126) 10)) 124 13 (τ 124 14) = t at em
  have at1 : Ag (fun c i => c = 126 ∨ c = 124 ∧ i = 13 ∨ c = 124 ∧ i = 0) τ t := by
    rw [← ht]
    exact ag_2 (ag_2 (W2 := fun c i => c = 126 ∨ c = 124 ∧ i = 0) (a_m0 τ 0) (fun _ _ h => Or.inr h) (ag_mw (W := fun c _ => c = 126) _ _ (fun _ => rfl)) (fun _ _ h => Or.inl h)) (fun _ _ _ => by omega) (ag_mst (W := fun c i => c = 124 ∧ i = 13) _ _ ⟨rfl, rfl⟩) (fun _ _ _ => by omega)
  have t6 : ∀ v, v < n → t 126 v = bs v := fun v hv => by
    rw [← ht, mst_ne _ _ _ (by decide), mw_at]
    exact (if_pos (by omega)).trans (b1 v hv).2
  have t13 : t 124 13 = cst (pv p bs) (pv p bs 1) n k := by
    rw [← ht, mst_at, upd_at, b3]
    exact (cst_pv p bs bs n k).symm
  have hp : prb (pv p bs) n k σ2 t := ⟨hvs, isX_ag hxs a2 (fun _ _ _ => by omega), isM_pv h1.2.2.1 at1 (fun _ _ _ => by omega) t6⟩
  have hbs : bst (pv p bs) n k bs σ2 t := bst_pv (bst_tr ⟨b0, b1, b2, b3⟩ ax (fun _ _ _ => by omega) at1 (fun _ _ _ => by omega))
  have hsu : suR (pv p bs) n k σ2 := suR_pv (suR_tr hC ax (fun _ _ _ => by omega))
  refine ⟨cst p (p 1) n k - cst p bs n k, σ2, t, ?_, ?_, pv p bs, n, k, bs, U, it, by omega, hp, hbs, t13, cou_tr h4 ax (fun _ _ _ => by omega) at1 (fun _ _ _ => by omega), stt_tr h5 ax (fun _ _ _ => by omega) at1 (fun _ _ _ => by omega), ban_tr h6 ax (fun _ _ _ => by omega) at1 (fun _ _ _ => by omega), lgR_tr h7 ax (fun _ _ _ => by omega) at1 (fun _ _ _ => by omega), hiR_tr h8 ax (fun _ _ _ => by omega) at1 (fun _ _ _ => by omega), saR_tr h9 ax (fun _ _ _ => by omega) at1 (fun _ _ _ => by omega), teR_tr hA ax (fun _ _ _ => by omega) at1 (fun _ _ _ => by omega), hsu⟩
  · unfold fX9_takeBest
    rw [e1, bd_some, et, bv_some, e2', bd_some]
  · rw [em, h3, b3]
