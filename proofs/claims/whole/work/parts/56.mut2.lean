/-! PURE, 16: the calls that change the problem -/
theorem rngN {a : Int32} {lo hi : Nat} (hh : hi ≤ 1000000) (h1 : nI lo ≤ a) (h2 : a ≤ nI hi) (hl : lo ≤ hi) : ∃ s : Nat, lo ≤ s ∧ s ≤ hi ∧ a = nI s := by
  have h0 : ¬ a < 0 := by
    intro h
    rw [Int32.lt_iff_toInt_lt] at h
    rw [Int32.le_iff_toInt_le, nI_toInt (by omega)] at h1
    rw [Int32.toInt_zero] at h
    omega
  obtain ⟨j, hj, rfl⟩ := nI_of h0
  refine ⟨j, ?_, ?_, rfl⟩
  · exact (nI_leI (by omega) hj).1 h1
  · exact (nI_leI hj (by omega)).1 h2
theorem upd_cong {f g : Nat → Int32} {n v : Nat} (x : Int32) (h : v ≠ n → f v = g v) : upd f n x v = upd g n x v := by
  unfold upd
  by_cases e : v = n
  · rw [if_pos e, if_pos e]
  · rw [if_neg e, if_neg e]; exact h e
theorem m_fails (τ : Mem) (c : Int32) : fX10_fails τ c = some (0, mst τ 124 0 c) := rfl
theorem R0_0 {B : Nat} {p : Nat → Nat → Int32} {n k : Nat} {bs : Nat → Int32} {U : Nat → Nat → Nat} {it : Nat} {σ τ : Mem} (h : R0 B p n k bs U it σ τ) (c : Int32) : R0 B p n k bs U it σ (mst τ 124 0 c) := R0_tr h (ag_r (W := fun c _ => c < 0)) (fun _ _ _ _ => by omega) (ag_mst τ c (W := fun c i => c = 124 ∧ i = 0) ⟨rfl, rfl⟩) (fun _ _ _ _ _ => by omega)
theorem RR_0 {B : Nat} {σ τ : Mem} (h : RR B σ τ) (c : Int32) : RR (B + 30) σ (mst τ 124 0 c) := by
  obtain ⟨p, n, k, bs, U, it, h⟩ := h
  exact RR_mono ⟨p, n, k, bs, U, it, R0_0 h c⟩ (by omega)
theorem RR_155 {B : Nat} {σ τ : Mem} (h : RR B σ τ) (r : Int32) : RR B (mst σ 155 0 r) τ := RR_tr h (ag_mst σ r (W := fun c i => c = 155 ∧ i = 0) ⟨rfl, rfl⟩) (fun _ _ _ _ => by omega) (ag_r (W := fun c _ => c < 0)) (fun _ _ _ _ _ => by omega)
theorem lgR_o {σ τ : Mem} (h : lgR σ τ) : ∃ o : Nat, o < 40 ∧ σ 104 1 = nI o := by
  obtain ⟨o, e, ho, -, h1, -⟩ := h
  exact ⟨o, ho, h1⟩
theorem mkOk_s {m : Int32} {n : Nat} (h : mkOk m n) : mkOk m (n + 1) := by
  obtain ⟨w, hw, e⟩ := h
  exact ⟨w, by rw [Nat.pow_succ]; omega, e⟩
/-- what a call that changes the problem ends with -/
theorem fin_R {B : Nat} {p : Nat → Nat → Int32} {n k : Nat} {σ τ σ1 τ1 : Mem} (h : prb p n k σ1 τ1) (hh : hiR σ1 τ1) (hs : stt σ τ) (hl : lgR σ τ) (ha : saR σ τ) (ht : teR σ τ) {W W' : Nat → Nat → Prop} (a : Ag W σ σ1) (s : ∀ c i, c = 83 ∧ i < 4 ∨ c = 104 ∧ i = 1 ∨ c = 0 ∨ 9 ≤ c ∧ c < 16 ∨ c = 116 ∧ i = 1 ∨ c = 117 → ¬ W c i) (a' : Ag W' τ τ1) (s' : ∀ c i, c = 124 ∧ 20 ≤ i ∧ i < 24 ∨ c = 124 ∧ i = 30 ∨ c = 136 ∨ c = 124 ∧ i = 52 ∨ c = 124 ∧ i = 55 ∨ c = 148 → ¬ W' c i) : ∃ σ2 τ2, fX9_beginSearch σ1 = some σ2 ∧ fX10_begins τ1 = some τ2 ∧ RR B σ2 τ2 ∧ Ag W_X9_beginSearch σ1 σ2 ∧ Ag W_X10_begins τ1 τ2 := by
  obtain ⟨o, ho, h1⟩ := lgR_o hl
  obtain ⟨σ2, τ2, e1, e2, hr⟩ := begin_R (B := B) h (stt_tr hs a (fun c i h => s c i (by omega)) a' (fun c i h => s' c i (by omega))) ⟨o, ho, (a _ _ (s _ _ (by omega))).trans h1⟩ hh (saR_tr ha a (fun c i h => s c i (by omega)) a' (fun c i h => s' c i (by omega))) (teR_tr ht a (fun c i h => s c i (by omega)) a' (fun c i h => s' c i (by omega)))
  exact ⟨σ2, τ2, e1, e2, hr, fq_X9_beginSearch e1, fq_X10_begins e2⟩
def pAdd (p : Nat → Nat → Int32) (n : Nat) (s : Int32) : Nat → Nat → Int32 := fun j => if j = 0 then upd (p 0) n s else if j = 1 then upd (p 1) n 0 else p j
theorem put_R {p : Nat → Nat → Int32} {n k s : Nat} {σ τ : Mem} (h : prb p n k σ τ) (hn : n < 10) (h1 : 2 ≤ s) (h2 : s ≤ 8) : ∃ σ1 τ1 p', fX4_putVariable σ (nI s) = some σ1 ∧ fX10_comesVariable τ (nI s) = some τ1 ∧ prb p' (n + 1) k σ1 τ1 := by
  obtain ⟨hv, ⟨x1, x2, x3, x4⟩, ⟨m1, m2, m3, m4⟩, m5⟩ := h
  refine ⟨mst (mst (mst σ 2 n (nI s)) 3 n 0) 1 7 (nI (n + 1)), mst (mst (mst τ 125 n (nI s)) 126 n 0) 124 7 (nI (n + 1)), pAdd p n (nI s), ?_, ?_, ⟨by omega, hv.2.1, fun v hv' => ?_, fun c hc => ?_⟩, ⟨?_, ?_, fun v hv' => ⟨?_, ?_⟩, fun c hc => ?_⟩, ⟨?_, ?_, fun v hv' => ?_, fun c hc => ?_⟩, fun v hv' => ?_⟩
  · unfold fX4_putVariable
    simp only [lt]
    rw [x1, ck_i (by omega) (by omega), cl_i (by omega), mst_ne σ _ _ (by decide : (1 : Nat) ≠ 2), x1, ck_i (by omega) (by omega), cl_i (by omega), mst_ne _ _ _ (by decide : (1 : Nat) ≠ 3), mst_ne σ _ _ (by decide : (1 : Nat) ≠ 2), x1, nI_s]
  · unfold fX10_comesVariable
    simp only [lt]
    rw [m1, ck_i (by omega) (by omega), cl_i (by omega), mst_ne τ _ _ (by decide : (124 : Nat) ≠ 125), m1, ck_i (by omega) (by omega), cl_i (by omega), mst_ne _ _ _ (by decide : (124 : Nat) ≠ 126), mst_ne τ _ _ (by decide : (124 : Nat) ≠ 125), m1, nI_s]
  · show ∃ s' w, 2 ≤ s' ∧ s' ≤ 8 ∧ w < s' ∧ upd (p 0) n (nI s) v = nI s' ∧ upd (p 1) n 0 v = nI w
    by_cases e : v = n
    · rw [e, upd_at, upd_at]
      exact ⟨s, 0, h1, h2, by omega, rfl, rfl⟩
    · rw [upd_ne _ _ e, upd_ne _ _ e]
      exact hv.2.2.1 v (by omega)
  · obtain ⟨g1, g2, g3, g4⟩ := hv.2.2.2 c hc
    exact ⟨g1, mkOk_s g2, g3, g4⟩
  · rw [mst_at, upd_at]
  · rw [mst_at, upd_ne _ _ (by decide), mst_ne _ _ _ (by decide), mst_ne _ _ _ (by decide)]; exact x2
  · rw [mst_ne _ _ _ (by decide), mst_ne _ _ _ (by decide), mst_at]
    exact upd_cong _ (fun e => (x3 v (by omega)).1)
  · rw [mst_ne _ _ _ (by decide), mst_at, mst_ne _ _ _ (by decide)]
    exact upd_cong _ (fun e => (x3 v (by omega)).2)
  · rw [mst_ne _ _ _ (by decide), mst_ne _ _ _ (by decide), mst_ne _ _ _ (by decide), mst_ne _ _ _ (by decide), mst_ne _ _ _ (by decide), mst_ne _ _ _ (by decide), mst_ne _ _ _ (by decide), mst_ne _ _ _ (by decide), mst_ne _ _ _ (by decide), mst_ne _ _ _ (by decide), mst_ne _ _ _ (by decide), mst_ne _ _ _ (by decide)]
    exact x4 c hc
  · rw [mst_at, upd_at]
  · rw [mst_at, upd_ne _ _ (by decide), mst_ne _ _ _ (by decide), mst_ne _ _ _ (by decide)]; exact m2
  · rw [mst_ne _ _ _ (by decide), mst_ne _ _ _ (by decide), mst_at]
    exact upd_cong _ (fun e => m3 v (by omega))
  · rw [mst_ne _ _ _ (by decide), mst_ne _ _ _ (by decide), mst_ne _ _ _ (by decide), mst_ne _ _ _ (by decide), mst_ne _ _ _ (by decide), mst_ne _ _ _ (by decide), mst_ne _ _ _ (by decide), mst_ne _ _ _ (by decide), mst_ne _ _ _ (by decide), mst_ne _ _ _ (by decide), mst_ne _ _ _ (by decide), mst_ne _ _ _ (by decide)]
    exact m4 c hc
  · rw [mst_ne _ _ _ (by decide), mst_at, mst_ne _ _ _ (by decide)]
    exact upd_cong _ (fun e => m5 v (by omega))
def pCon (p : Nat → Nat → Int32) (k : Nat) (a b c d : Int32) : Nat → Nat → Int32 := fun j => if j = 2 then upd (p 2) k a else if j = 3 then upd (p 3) k b else if j = 4 then upd (p 4) k c else if j = 5 then upd (p 5) k d else p j
theorem putc_R {p : Nat → Nat → Int32} {n k : Nat} {a b c d : Int32} {σ τ : Mem} (h : prb p n k σ τ) (hk : k < 20) (h1 : kdOk a) (h2 : mkOk b n) (h3 : nuOk c) (h4 : wtOk d) : ∃ σ1 τ1 p', fX4_putConstraint σ a b c d = some σ1 ∧ fX10_comesConstraint τ a b c d = some τ1 ∧ prb p' n (k + 1) σ1 τ1 := by
  obtain ⟨hv, ⟨x1, x2, x3, x4⟩, ⟨m1, m2, m3, m4⟩, m5⟩ := h
  refine ⟨mst (mst (mst (mst (mst σ 4 k a) 5 k b) 6 k c) 7 k d) 1 8 (nI (k + 1)), mst (mst (mst (mst (mst τ 127 k a) 128 k b) 129 k c) 130 k d) 124 8 (nI (k + 1)), pCon p k a b c d, ?_, ?_, ⟨hv.1, by omega, hv.2.2.1, fun e he => ?_⟩, ⟨?_, ?_, fun v hv' => ?_, fun e he => ⟨?_, ?_, ?_, ?_⟩⟩, ⟨?_, ?_, fun v hv' => ?_, fun e he => ⟨?_, ?_, ?_, ?_⟩⟩, fun v hv' => ?_⟩
  · unfold fX4_putConstraint
    simp only [lt]
    rw [x2, ck_i (by omega) (by omega), cl_i (by omega), mst_ne _ _ _ (by decide : (1 : Nat) ≠ 4), x2, ck_i (by omega) (by omega), cl_i (by omega), mst_ne _ _ _ (by decide : (1 : Nat) ≠ 5), mst_ne _ _ _ (by decide : (1 : Nat) ≠ 4), x2, ck_i (by omega) (by omega), cl_i (by omega), mst_ne _ _ _ (by decide : (1 : Nat) ≠ 6), mst_ne _ _ _ (by decide : (1 : Nat) ≠ 5), mst_ne _ _ _ (by decide : (1 : Nat) ≠ 4), x2, ck_i (by omega) (by omega), cl_i (by omega), mst_ne _ _ _ (by decide : (1 : Nat) ≠ 7), mst_ne _ _ _ (by decide : (1 : Nat) ≠ 6), mst_ne _ _ _ (by decide : (1 : Nat) ≠ 5), mst_ne _ _ _ (by decide : (1 : Nat) ≠ 4), x2, nI_s]
  · unfold fX10_comesConstraint
    simp only [lt]
    rw [m2, ck_i (by omega) (by omega), cl_i (by omega), mst_ne _ _ _ (by decide : (124 : Nat) ≠ 127), m2, ck_i (by omega) (by omega), cl_i (by omega), mst_ne _ _ _ (by decide : (124 : Nat) ≠ 128), mst_ne _ _ _ (by decide : (124 : Nat) ≠ 127), m2, ck_i (by omega) (by omega), cl_i (by omega), mst_ne _ _ _ (by decide : (124 : Nat) ≠ 129), mst_ne _ _ _ (by decide : (124 : Nat) ≠ 128), mst_ne _ _ _ (by decide : (124 : Nat) ≠ 127), m2, ck_i (by omega) (by omega), cl_i (by omega), mst_ne _ _ _ (by decide : (124 : Nat) ≠ 130), mst_ne _ _ _ (by decide : (124 : Nat) ≠ 129), mst_ne _ _ _ (by decide : (124 : Nat) ≠ 128), mst_ne _ _ _ (by decide : (124 : Nat) ≠ 127), m2, nI_s]
  · show kdOk (upd (p 2) k a e) ∧ mkOk (upd (p 3) k b e) n ∧ nuOk (upd (p 4) k c e) ∧ wtOk (upd (p 5) k d e)
    by_cases ek : e = k
    · rw [ek, upd_at, upd_at, upd_at, upd_at]; exact ⟨h1, h2, h3, h4⟩
    · rw [upd_ne _ _ ek, upd_ne _ _ ek, upd_ne _ _ ek, upd_ne _ _ ek]; exact hv.2.2.2 e (by omega)
  · rw [mst_at, upd_ne _ _ (by decide), mst_ne _ _ _ (by decide), mst_ne _ _ _ (by decide), mst_ne _ _ _ (by decide), mst_ne _ _ _ (by decide)]; exact x1
  · rw [mst_at, upd_at]
  · rw [mst_ne _ _ _ (by decide), mst_ne _ _ _ (by decide), mst_ne _ _ _ (by decide), mst_ne _ _ _ (by decide), mst_ne _ _ _ (by decide), mst_ne _ _ _ (by decide), mst_ne _ _ _ (by decide), mst_ne _ _ _ (by decide), mst_ne _ _ _ (by decide), mst_ne _ _ _ (by decide)]; exact x3 v hv'
  · rw [mst_ne _ _ _ (by decide), mst_ne _ _ _ (by decide), mst_ne _ _ _ (by decide), mst_ne _ _ _ (by decide), mst_at]
    exact upd_cong _ (fun _ => (x4 e (by omega)).1)
  · rw [mst_ne _ _ _ (by decide), mst_ne _ _ _ (by decide), mst_ne _ _ _ (by decide), mst_at, mst_ne _ _ _ (by decide)]
    exact upd_cong _ (fun _ => (x4 e (by omega)).2.1)
  · rw [mst_ne _ _ _ (by decide), mst_ne _ _ _ (by decide), mst_at, mst_ne _ _ _ (by decide), mst_ne _ _ _ (by decide)]
    exact upd_cong _ (fun _ => (x4 e (by omega)).2.2.1)
  · rw [mst_ne _ _ _ (by decide), mst_at, mst_ne _ _ _ (by decide), mst_ne _ _ _ (by decide), mst_ne _ _ _ (by decide)]
    exact upd_cong _ (fun _ => (x4 e (by omega)).2.2.2)
  · rw [mst_at, upd_ne _ _ (by decide), mst_ne _ _ _ (by decide), mst_ne _ _ _ (by decide), mst_ne _ _ _ (by decide), mst_ne _ _ _ (by decide)]; exact m1
  · rw [mst_at, upd_at]
  · rw [mst_ne _ _ _ (by decide), mst_ne _ _ _ (by decide), mst_ne _ _ _ (by decide), mst_ne _ _ _ (by decide), mst_ne _ _ _ (by decide)]; exact m3 v hv'
  · rw [mst_ne _ _ _ (by decide), mst_ne _ _ _ (by decide), mst_ne _ _ _ (by decide), mst_ne _ _ _ (by decide), mst_at]
    exact upd_cong _ (fun _ => (m4 e (by omega)).1)
  · rw [mst_ne _ _ _ (by decide), mst_ne _ _ _ (by decide), mst_ne _ _ _ (by decide), mst_at, mst_ne _ _ _ (by decide)]
    exact upd_cong _ (fun _ => (m4 e (by omega)).2.1)
  · rw [mst_ne _ _ _ (by decide), mst_ne _ _ _ (by decide), mst_at, mst_ne _ _ _ (by decide), mst_ne _ _ _ (by decide)]
    exact upd_cong _ (fun _ => (m4 e (by omega)).2.2.1)
  · rw [mst_ne _ _ _ (by decide), mst_at, mst_ne _ _ _ (by decide), mst_ne _ _ _ (by decide), mst_ne _ _ _ (by decide)]
    exact upd_cong _ (fun _ => (m4 e (by omega)).2.2.2)
  · rw [mst_ne _ _ _ (by decide), mst_ne _ _ _ (by decide), mst_ne _ _ _ (by decide), mst_ne _ _ _ (by decide), mst_ne _ _ _ (by decide)]; exact m5 v hv'
theorem S_addVariable (a : Int32) : Sim (fun σ => wL_addVariable σ a) (fun τ => fX10_addVariable τ a) := by
  intro B σ τ hB h
  have h00 := h
  obtain ⟨p, n, k, bs, U, it, h⟩ := h
  by_cases ha : (2 : Int32) ≤ a ∧ a ≤ 8
  · obtain ⟨s, hs1, hs2, rfl⟩ := rngN (lo := 2) (hi := 8) (by omega) ha.1 ha.2 (by omega)
    have hr := h.2.1
    have hn := hr.1.1
    have x1 := hr.2.1.1
    have m1 := hr.2.2.1.1
    have cs : fX9_checkSize σ (nI s) = some (.inl (), σ) := by
      unfold fX9_checkSize
      rw [xrange_ok σ ha.1 ha.2]; rfl
    by_cases hn10 : n = 10
    · subst hn10
      refine ⟨2, σ, 0, mst τ 124 0 2, ?_, ?_, RR_0 h00 2, by rw [mst_at, upd_at], fun h => absurd h (by decide)⟩
      · show wL_addVariable σ (nI s) = _
        unfold wL_addVariable fX9_addVariable
        rw [cs, bx_inl, x1, if_neg (by decide), bx_inr, if_neg (by decide), if_pos rfl]
      · show fX10_addVariable τ (nI s) = _
        unfold fX10_addVariable
        rw [mrange_ok τ ha.1 ha.2, bd_some, if_neg (by decide), m1, if_pos (by decide), m_fails, bd_some]
    · obtain ⟨-, g1, -, -, -, g5, -, g7, g8, g9, gA, -⟩ := R0_0 h 0
      obtain ⟨σ1, τ1, e1, e2, q1, q8, ax, am⟩ := rem_R g1 g8
      obtain ⟨σ2, τ2, p', e3, e4, q2⟩ := put_R q1 (by omega) hs1 hs2
      have ax2 := fq_X4_putVariable e3
      have am2 := fq_X10_comesVariable e4
      obtain ⟨σ3, τ3, e5, e6, q3, ax3, am3⟩ := fin_R (B := B + 30) q2 (hiR_tr q8 ax2 (fun _ _ _ => by omega) am2 (fun _ _ _ => by omega)) g5 g7 g9 gA (ag_2 (W2 := fun c i => 17 ≤ c ∧ c < 82 ∨ 1 ≤ c ∧ c < 8) ax (fun _ _ _ => by omega) ax2 (fun _ _ _ => by omega)) (fun _ _ _ => by omega) (ag_2 (W2 := fun c i => c = 135 ∨ c = 124 ∧ i = 7 ∨ c = 124 ∧ 28 ≤ i ∧ i < 30 ∨ c = 124 ∧ i = 31 ∨ 125 ≤ c ∧ c < 131) am (fun _ _ _ => by omega) am2 (fun _ _ _ => by omega)) (fun _ _ _ => by omega)
      have z1 : σ3 1 7 = nI (n + 1) := (ax3 _ _ (by omega)).trans q2.2.1.1
      have z2 : τ3 124 7 = nI (n + 1) := (am3 _ _ (by omega)).trans q2.2.2.1.1
      have z3 : τ3 124 0 = 0 := (am3 _ _ (by omega)).trans ((am2 _ _ (by omega)).trans ((am _ _ (by omega)).trans (by rw [mst_at, upd_at])))
      refine ⟨0, mst σ3 155 0 (nI n), nI n, τ3, ?_, ?_, RR_155 q3 _, z3, fun _ => by rw [mst_at, upd_at]⟩
      · show wL_addVariable σ (nI s) = _
        unfold wL_addVariable fX9_addVariable
        rw [cs, bx_inl, x1, if_pos (show nI n < (10 : Int32) from (lt_i (a := n) (b := 10) (by omega) (by omega)).2 (by omega)), e1, bv_some, e3, bv_some, e5, bv_some, bx_inl, z1, nI_p]
      · show fX10_addVariable τ (nI s) = _
        unfold fX10_addVariable
        simp only [lt]
        rw [mrange_ok τ ha.1 ha.2, bd_some, if_neg (by decide), m1, if_neg (show ¬ nI n = (10 : Int32) from fun hh => hn10 ((eq_i (a := n) (b := 10) (by omega) (by omega)).1 hh)), e2, bv_some, e4, bv_some, e6, bv_some, z2, nI_p]
  · refine ⟨1, σ, 0, mst τ 124 0 1, ?_, ?_, RR_0 h00 1, by rw [mst_at, upd_at], fun h => absurd h (by decide)⟩
    · show wL_addVariable σ a = _
      unfold wL_addVariable fX9_addVariable fX9_checkSize
      rw [xrange_no σ ha, bx_inr, bx_inr, bx_inr, if_pos rfl]
    · show fX10_addVariable τ a = _
      unfold fX10_addVariable
      rw [mrange_no τ ha, bd_some, if_pos rfl, m_fails, bd_some]
