/-! PURE, 35: all combinations, one after the other -/
def updN (r : Nat → Nat) (v x : Nat) : Nat → Nat := fun u => if u = v then x else r u
theorem updN_at (r : Nat → Nat) (v x : Nat) : updN r v x v = x := if_pos rfl
theorem updN_ne (r : Nat → Nat) {v u : Nat} (x : Nat) (h : u ≠ v) : updN r v x u = r u := if_neg h
def adv (sN : Nat → Nat) : Nat → (Nat → Nat) → (Nat → Nat) × Bool
  | 0, r => (r, false)
  | v + 1, r => if r v + 1 < sN v then (updN r v (r v + 1), true) else adv sN v (updN r v 0)
theorem adv_t {sN : Nat → Nat} {v : Nat} {r : Nat → Nat} (h : r v + 1 < sN v) : adv sN (v + 1) r = (updN r v (r v + 1), true) := if_pos h
theorem adv_f {sN : Nat → Nat} {v : Nat} {r : Nat → Nat} (h : ¬ r v + 1 < sN v) : adv sN (v + 1) r = adv sN v (updN r v 0) := if_neg h
def rnk (sN r : Nat → Nat) : Nat → Nat
  | 0 => 0
  | v + 1 => rnk sN r v * sN v + r v
def prd (sN : Nat → Nat) : Nat → Nat
  | 0 => 1
  | v + 1 => prd sN v * sN v
theorem rnk_congr {sN r r' : Nat → Nat} : ∀ v, (∀ u, u < v → r u = r' u) → rnk sN r v = rnk sN r' v
  | 0, _ => rfl
  | v + 1, h => by
    show rnk sN r v * sN v + r v = rnk sN r' v * sN v + r' v
    rw [rnk_congr v (fun u hu => h u (by omega)), h v (by omega)]
theorem adv_far (sN : Nat → Nat) : ∀ (v : Nat) (r : Nat → Nat) (u : Nat), v ≤ u → (adv sN v r).1 u = r u
  | 0, _, _, _ => rfl
  | v + 1, r, u, h => by
    by_cases c : r v + 1 < sN v
    · rw [adv_t c]; exact updN_ne _ _ (by omega)
    · rw [adv_f c, adv_far sN v _ u (by omega)]; exact updN_ne _ _ (by omega)
theorem adv_lt (sN : Nat → Nat) : ∀ (v : Nat) (r : Nat → Nat), (∀ u, r u < sN u) → ∀ u, (adv sN v r).1 u < sN u
  | 0, _, h, u => h u
  | v + 1, r, h, u => by
    by_cases c : r v + 1 < sN v
    · rw [adv_t c]
      show updN r v (r v + 1) u < sN u
      by_cases e : u = v
      · subst e; rw [updN_at]; exact c
      · rw [updN_ne _ _ e]; exact h u
    · rw [adv_f c]
      refine adv_lt sN v _ (fun u => ?_) u
      by_cases e : u = v
      · subst e; rw [updN_at]; have := h u; omega
      · rw [updN_ne _ _ e]; exact h u
theorem adv_rnk (sN : Nat → Nat) : ∀ (v : Nat) (r : Nat → Nat), (∀ u, r u < sN u) → (adv sN v r).2 = true ∧ rnk sN (adv sN v r).1 v = rnk sN r v + 1 ∨ (adv sN v r).2 = false ∧ rnk sN r v + 1 = prd sN v
  | 0, _, _ => Or.inr ⟨rfl, rfl⟩
  | v + 1, r, h => by
    by_cases c : r v + 1 < sN v
    · left
      rw [adv_t c]
      refine ⟨rfl, ?_⟩
      show rnk sN (updN r v (r v + 1)) v * sN v + updN r v (r v + 1) v = rnk sN r v * sN v + r v + 1
      rw [updN_at, rnk_congr (r' := r) v (fun u hu => updN_ne _ _ (by omega)), Nat.add_assoc]
    · rw [adv_f c]
      have hv := h v
      have h' : ∀ u, updN r v 0 u < sN u := fun u => by
        by_cases e : u = v
        · subst e; rw [updN_at]; omega
        · rw [updN_ne _ _ e]; exact h u
      have e0 : rnk sN (updN r v 0) v = rnk sN r v := rnk_congr v (fun u hu => updN_ne _ _ (by omega))
      have e1 : rnk sN r (v + 1) = rnk sN r v * sN v + r v := rfl
      have e2 : rnk sN (adv sN v (updN r v 0)).1 (v + 1) = rnk sN (adv sN v (updN r v 0)).1 v * sN v + (adv sN v (updN r v 0)).1 v := rfl
      have e3 : (adv sN v (updN r v 0)).1 v = 0 := (adv_far sN v _ v (Nat.le_refl _)).trans (updN_at _ _ _)
      have e4 : prd sN (v + 1) = prd sN v * sN v := rfl
      have e5 : (rnk sN r v + 1) * sN v = rnk sN r v * sN v + sN v := Nat.succ_mul _ _
      rcases adv_rnk sN v (updN r v 0) h' with ⟨g1, g2⟩ | ⟨g1, g2⟩
      · left
        refine ⟨g1, ?_⟩
        rw [e2, e3, g2, e0, e5, e1]
        omega
      · right
        refine ⟨g1, ?_⟩
        rw [e0] at g2
        rw [e4, ← g2, e5, e1]
        omega
theorem m1_add (x : Int32) : x + (-1 : Int32) = x - 1 := (Int32.sub_eq_add_neg x 1).symm
theorem xadv {p : Nat → Nat → Int32} {n k : Nat} {sN : Nat → Nat} (hn : n ≤ 10) (hs : ∀ v, v < n → p 0 v = nI (sN v)) (hs8 : ∀ v, sN v ≤ 8) : ∀ (v : Nat), v ≤ n → ∀ N, v < N → ∀ (σ : Mem) (r : Nat → Nat), isX 1 σ p n k → (∀ u, r u < sN u) → (∀ u, u < n → σ 114 u = nI (r u)) → ∃ σ2, fX7_advance_L7 N σ (nI v - 1) = some σ2 ∧ (∀ u, u < n → σ2 114 u = nI ((adv sN v r).1 u)) ∧ Ag (fun c _ => c = 114) σ σ2 := by
  intro v
  induction v with
  | zero =>
    intro hv N hN σ r hx hr hm
    obtain ⟨N, rfl, hN⟩ := nsub1 hN
    refine ⟨σ, ?_, hm, ag_r⟩
    rw [show fX7_advance_L7 (N + 1) = fX7_advance_B7 (fX7_advance_L7 N) from rfl]
    unfold fX7_advance_B7
    rw [if_pos (by decide)]
  | succ v ih =>
    intro hv N hN σ r hx hr hm
    obtain ⟨N, rfl, hN⟩ := nsub1 hN
    have h8 := hs8 v
    have hrv := hr v
    have x2 : σ 2 v = nI (sN v) := ((hx.2.2.1 v (by omega)).1).trans (hs v (by omega))
    have e1 : (mst σ 114 v (nI (r v + 1))) 114 v = nI (r v + 1) := by rw [mst_at, upd_at]
    have e2 : (mst σ 114 v (nI (r v + 1))) 2 v = nI (sN v) := by rw [mst_ne _ _ _ (by decide)]; exact x2
    rw [show fX7_advance_L7 (N + 1) = fX7_advance_B7 (fX7_advance_L7 N) from rfl]
    unfold fX7_advance_B7
    simp only [nI_p, ck_i (show v < 10 by omega) (show 10 ≤ 1000000 by omega), cl_i (show v ≤ 1000000 by omega), hm v (by omega), nI_s, lt_e2, e1, e2]
    rw [if_neg (nI_pos (by omega))]
    by_cases c : r v + 1 < sN v
    · rw [if_neg (fun hh => absurd ((le_i (by omega) (by omega)).1 hh) (by omega)), adv_t c]
      refine ⟨_, rfl, fun u hu => ?_, ag_mst _ _ rfl⟩
      rw [mst_at]
      show upd (σ 114) v (nI (r v + 1)) u = nI (updN r v (r v + 1) u)
      by_cases e : u = v
      · subst e; rw [upd_at, updN_at]
      · rw [upd_ne _ _ e, updN_ne _ _ e]; exact hm u hu
    · rw [if_pos ((le_i (by omega) (by omega)).2 (by omega)), adv_f c, m1_add]
      have a0 : Ag (fun c _ => c = 114) σ (mst (mst σ 114 v (nI (r v + 1))) 114 v 0) := ag_2 (ag_mst (W := fun c _ => c = 114) _ _ rfl) (fun _ _ h => h) (ag_mst (W := fun c _ => c = 114) _ _ rfl) (fun _ _ h => h)
      obtain ⟨σ2, e3, e4, e5⟩ := ih (by omega) N (by omega) (mst (mst σ 114 v (nI (r v + 1))) 114 v 0) (updN r v 0) (isX_ag hx a0 (fun _ _ _ => by omega)) (fun u => by
        by_cases e : u = v
        · subst e; rw [updN_at]; omega
        · rw [updN_ne _ _ e]; exact hr u) (fun u hu => by
        rw [mst_at, mst_at]
        by_cases e : u = v
        · subst e; rw [upd_at, updN_at]; rfl
        · rw [upd_ne _ _ e, upd_ne _ _ e, updN_ne _ _ e]; exact hm u hu)
      exact ⟨σ2, e3, e4, ag_2 a0 (fun _ _ h => h) e5 (fun _ _ h => h)⟩
theorem madv {p : Nat → Nat → Int32} {n k : Nat} {sN : Nat → Nat} (hn : n ≤ 10) (hs : ∀ v, v < n → p 0 v = nI (sN v)) (hs8 : ∀ v, sN v ≤ 8) : ∀ (v : Nat), v ≤ n → ∀ N, v < N → ∀ (τ : Mem) (r : Nat → Nat), isM0 τ p n k → (∀ u, r u < sN u) → (∀ u, u < n → τ 146 u = nI (r u)) → ∃ τ2, fX10_goesOn_L7 N τ (nI v - 1) = some (b01 (adv sN v r).2, τ2) ∧ (∀ u, u < n → τ2 146 u = nI ((adv sN v r).1 u)) ∧ Ag (fun c _ => c = 146) τ τ2 := by
  intro v
  induction v with
  | zero =>
    intro hv N hN τ r hx hr hm
    obtain ⟨N, rfl, hN⟩ := nsub1 hN
    refine ⟨τ, ?_, hm, ag_r⟩
    rw [show fX10_goesOn_L7 (N + 1) = fX10_goesOn_B7 (fX10_goesOn_L7 N) from rfl]
    unfold fX10_goesOn_B7
    rw [if_pos (by decide)]
    rfl
  | succ v ih =>
    intro hv N hN τ r hx hr hm
    obtain ⟨N, rfl, hN⟩ := nsub1 hN
    have h8 := hs8 v
    have hrv := hr v
    have x2 : τ 125 v = nI (sN v) := (hx.2.2.1 v (by omega)).trans (hs v (by omega))
    have e1 : (mst τ 146 v (nI (r v + 1))) 146 v = nI (r v + 1) := by rw [mst_at, upd_at]
    have e2 : (mst τ 146 v (nI (r v + 1))) 125 v = nI (sN v) := by rw [mst_ne _ _ _ (by decide)]; exact x2
    rw [show fX10_goesOn_L7 (N + 1) = fX10_goesOn_B7 (fX10_goesOn_L7 N) from rfl]
    unfold fX10_goesOn_B7
    simp only [nI_p, ck_i (show v < 10 by omega) (show 10 ≤ 1000000 by omega), cl_i (show v ≤ 1000000 by omega), hm v (by omega), nI_s, lt_e2, e1, e2]
    rw [if_neg (nI_pos (by omega))]
    by_cases c : r v + 1 < sN v
    · rw [if_neg (fun hh => absurd ((le_i (by omega) (by omega)).1 hh) (by omega)), adv_t c]
      refine ⟨_, rfl, fun u hu => ?_, ag_mst _ _ rfl⟩
      rw [mst_at]
      show upd (τ 146) v (nI (r v + 1)) u = nI (updN r v (r v + 1) u)
      by_cases e : u = v
      · subst e; rw [upd_at, updN_at]
      · rw [upd_ne _ _ e, updN_ne _ _ e]; exact hm u hu
    · rw [if_pos ((le_i (by omega) (by omega)).2 (by omega)), adv_f c, m1_add]
      have a0 : Ag (fun c _ => c = 146) τ (mst (mst τ 146 v (nI (r v + 1))) 146 v 0) := ag_2 (ag_mst (W := fun c _ => c = 146) _ _ rfl) (fun _ _ h => h) (ag_mst (W := fun c _ => c = 146) _ _ rfl) (fun _ _ h => h)
      obtain ⟨τ2, e3, e4, e5⟩ := ih (by omega) N (by omega) (mst (mst τ 146 v (nI (r v + 1))) 146 v 0) (updN r v 0) (isM0_ag hx a0 (fun _ _ _ => by omega)) (fun u => by
        by_cases e : u = v
        · subst e; rw [updN_at]; omega
        · rw [updN_ne _ _ e]; exact hr u) (fun u hu => by
        rw [mst_at, mst_at]
        by_cases e : u = v
        · subst e; rw [upd_at, updN_at]; rfl
        · rw [upd_ne _ _ e, upd_ne _ _ e, updN_ne _ _ e]; exact hm u hu)
      exact ⟨τ2, e3, e4, ag_2 a0 (fun _ _ h => h) e5 (fun _ _ h => h)⟩
