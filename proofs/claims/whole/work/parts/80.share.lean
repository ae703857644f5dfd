/-! PURE, 40: the share of improving steps -/
def shr40 (a e : Nat) : UInt64 := FP.ddiv (FP.i2d (nI a)) (FP.i2d (nI e))
theorem shr_ok : ∀ e, e < 41 → ∀ a, a < 41 → e = 0 ∨ e < a ∨ (shr40 a e &&& 0x7fffffffffffffff ≤ 0x7ff0000000000000 ∧ Op.cmpValue (FP.dcmp (shr40 a e) (shr40 a e)) CmpOp.l = 0) := by decide +kernel
def impN (τ : Mem) : Nat → Nat
  | 0 => 0
  | j + 1 => if τ 134 (7 * j + 4) < τ 134 (7 * j + 6) then impN τ j + 1 else impN τ j
theorem impN_le (τ : Mem) : ∀ j, impN τ j ≤ j
  | 0 => Nat.le_refl 0
  | j + 1 => by
    have := impN_le τ j
    unfold impN
    by_cases c : τ 134 (7 * j + 4) < τ 134 (7 * j + 6)
    · rw [if_pos c]; omega
    · rw [if_neg c]; omega
theorem ximp {σ τ : Mem} {o e : Nat} (ho : o < 40) (he : e ≤ 40) (h1 : σ 104 1 = nI o) (h2 : σ 104 2 = nI e) (h : ∀ j, j < e → σ 112 ((o + j) % 40) = (if τ 134 (7 * j + 4) < τ 134 (7 * j + 6) then 1 else 0)) : ∀ (j i : Nat), i + j = e → ∀ N, j < N → fX6_improvements_L4 N σ (nI (impN τ i)) (nI i) = some (nI (impN τ e), σ) := by
  intro j
  induction j with
  | zero =>
    intro i hi N hN
    obtain ⟨N, rfl, hN⟩ := nsub1 hN
    have e : i = e := by omega
    subst e
    rw [show fX6_improvements_L4 (N + 1) = fX6_improvements_B4 (fX6_improvements_L4 N) from rfl]
    unfold fX6_improvements_B4
    rw [h2, if_pos ((le_i (by omega) (by omega)).2 (Nat.le_refl _))]
  | succ j ih =>
    intro i hi N hN
    obtain ⟨N, rfl, hN⟩ := nsub1 hN
    have e2 := ih (i + 1) (by omega) N (by omega)
    rw [show fX6_improvements_L4 (N + 1) = fX6_improvements_B4 (fX6_improvements_L4 N) from rfl]
    unfold fX6_improvements_B4
    rw [h2, if_neg (fun h => absurd ((le_i (by omega) (by omega)).1 h) (by omega)), show fX6_partAt σ (nI i) 6 = _ from xpart (w := 6) ho (by omega) (by omega) h1, bd_some, nI_s, h i (by omega)]
    rw [show impN τ (i + 1) = (if τ 134 (7 * i + 4) < τ 134 (7 * i + 6) then impN τ i + 1 else impN τ i) from rfl] at e2
    by_cases c : τ 134 (7 * i + 4) < τ 134 (7 * i + 6)
    · rw [if_pos c]; rw [if_pos c] at e2; rw [nI_s]; exact e2
    · rw [if_neg c]; rw [if_neg c] at e2; rw [Int32.add_zero]; exact e2
theorem i7 {i w : Nat} : (7 : Int32) * nI i + nI w = nI (7 * i + w) := by
  rw [show (7 : Int32) = nI 7 from rfl, nI_mul, nI_add]
theorem mimp {τ : Mem} {e : Nat} (he : e ≤ 40) (h2 : τ 124 19 = nI e) : ∀ (j i : Nat), i + j = e → ∀ N, j < N → fX10_improvingShare_L4 N τ (nI (impN τ i)) (nI i) = (if nI e = (0 : Int32) then fX10_improvingShare_L65 τ (nI (impN τ e)) 1 else fX10_improvingShare_L65 τ (nI (impN τ e)) 0) := by
  intro j
  induction j with
  | zero =>
    intro i hi N hN
    obtain ⟨N, rfl, hN⟩ := nsub1 hN
    have e : i = e := by omega
    subst e
    rw [show fX10_improvingShare_L4 (N + 1) = fX10_improvingShare_B4 (fX10_improvingShare_L4 N) from rfl]
    unfold fX10_improvingShare_B4
    rw [h2, if_pos ((le_i (by omega) (by omega)).2 (Nat.le_refl _))]
  | succ j ih =>
    intro i hi N hN
    obtain ⟨N, rfl, hN⟩ := nsub1 hN
    have e2 := ih (i + 1) (by omega) N (by omega)
    rw [show fX10_improvingShare_L4 (N + 1) = fX10_improvingShare_B4 (fX10_improvingShare_L4 N) from rfl]
    unfold fX10_improvingShare_B4 fX10_improvingShare_L44
    rw [h2, if_neg (fun h => absurd ((le_i (by omega) (by omega)).1 h) (by omega)), show (7 : Int32) * nI i + (4 : Int32) = nI (7 * i + 4) from i7 (w := 4), show (7 : Int32) * nI i + (6 : Int32) = nI (7 * i + 6) from i7 (w := 6), ck_i (by omega) (by omega), ck_i (by omega) (by omega), cl_i (by omega), cl_i (by omega), nI_s]
    rw [show impN τ (i + 1) = (if τ 134 (7 * i + 4) < τ 134 (7 * i + 6) then impN τ i + 1 else impN τ i) from rfl] at e2
    by_cases c : τ 134 (7 * i + 4) < τ 134 (7 * i + 6)
    · rw [if_pos c] at e2; rw [if_neg (fun hh => nl_i hh c), nI_s]; exact e2
    · rw [if_neg c] at e2; rw [if_pos (Int32.not_lt.mp c), Int32.add_zero]; exact e2
theorem S_share : ∀ (B : Nat) (σ τ : Mem), B ≤ 18000 → RR B σ τ → ∃ k σ1 b τ1, wL_improvingShare σ = some (k, σ1) ∧ fX10_improvingShare τ = some (b, τ1) ∧ RR (B + 30) σ1 τ1 ∧ τ1 124 0 = k ∧ (k = 0 → Op.cmpValue (FP.dcmp (cmb (σ1 156 0) (σ1 156 1)) b) CmpOp.l = 0) := by
  intro B σ τ hB h
  have h00 := h
  obtain ⟨p, n, k, bs, U, it, h⟩ := h
  obtain ⟨o, e, ho, he, y1, y2, y3, y4⟩ := h.2.2.2.2.2.2.2.1
  have hi := impN_le τ e
  have ex := ximp (τ := τ) ho he y1 y2 (fun j hj => (y4 j hj).2) e 0 (by omega) FU (FU_lt (by omega))
  have em := mimp he y3 e 0 (by omega) FU (FU_lt (by omega))
  by_cases c : e = 0
  · subst c
    refine ⟨1, σ, 0, mst τ 124 0 1, ?_, ?_, RR_0 h00 1, m00 _ _, fun h => absurd h (by decide)⟩
    · unfold wL_improvingShare fX9_improvingShare
      rw [y2, if_pos (show nI 0 = (0 : Int32) from rfl), bx_inr, if_pos rfl]
    · unfold fX10_improvingShare
      rw [show fX10_improvingShare_L4 FU τ 0 0 = _ from em, if_pos (show nI 0 = (0 : Int32) from rfl)]
      unfold fX10_improvingShare_L65
      rw [lt_e2, m0n _ _ (by decide), y3, if_pos (show nI 0 = (0 : Int32) from rfl)]
  · have c0 : ¬ nI e = (0 : Int32) := fun hh => c ((eq_i (b := 0) (by omega) (by omega)).1 hh)
    obtain ⟨g1, g2⟩ : shr40 (impN τ e) e &&& 0x7fffffffffffffff ≤ 0x7ff0000000000000 ∧ Op.cmpValue (FP.dcmp (shr40 (impN τ e) e) (shr40 (impN τ e) e)) CmpOp.l = 0 := by
      rcases shr_ok e (by omega) (impN τ e) (by omega) with g | g | g
      · exact absurd g c
      · exact absurd g (by omega)
      · exact g
    have a2 : Ag (fun c _ => c = 156) σ (mst (mst σ 156 0 (lo32 (shr40 (impN τ e) e))) 156 1 (hi32 (shr40 (impN τ e) e))) := ag_2 (ag_mst (W := fun c _ => c = 156) _ _ rfl) (fun _ _ h => h) (ag_mst (W := fun c _ => c = 156) _ _ rfl) (fun _ _ h => h)
    refine ⟨0, _, shr40 (impN τ e) e, mst τ 124 0 0, ?_, ?_, RR_0 (RR_tr h00 a2 (fun _ _ _ _ => by omega) (ag_r (W := Wn)) (fun _ _ _ _ _ => by omega)) 0, m00 _ _, fun _ => ?_⟩
    · unfold wL_improvingShare fX9_improvingShare fX6_improvements
      rw [y2, if_neg c0, show fX6_improvements_L4 FU σ 0 0 = _ from ex, bd_some]
      rw [show FP.ddiv (FP.i2d (nI (impN τ e))) (FP.i2d (nI e)) = shr40 (impN τ e) e from rfl]
      unfold ckd
      rw [if_pos g1, bx_inl]
    · unfold fX10_improvingShare
      rw [show fX10_improvingShare_L4 FU τ 0 0 = _ from em, if_neg c0]
      unfold fX10_improvingShare_L65
      rw [lt_e2, m0n _ _ (by decide), y3, if_neg c0]
      rw [show FP.ddiv (FP.i2d (nI (impN τ e))) (FP.i2d (nI e)) = shr40 (impN τ e) e from rfl]
      unfold ckd
      rw [if_pos g1]
    · rw [mst_at, upd_at, upd_ne _ _ (by decide : (0 : Nat) ≠ 1), mst_at, upd_at, cmb_lohi]
      exact g2
