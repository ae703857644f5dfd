/-! PURE, 18: constraints come and go -/
theorem drop_row (f : Nat → Int32) {r k : Nat} (hr : r < k) (c : Nat) (hc : c < k - 1) : va_cpy f f (r + 1) r (k - r - 1) c = if c < r then f c else f (c + 1) := by
  unfold va_cpy
  by_cases h : c < r
  · rw [if_neg (by omega), if_pos h]
  · rw [if_pos (by omega), if_neg h]
    congr 1
    omega
def pDrop (p : Nat → Nat → Int32) (r : Nat) : Nat → Nat → Int32 := fun j => if j < 2 then p j else fun c => if c < r then p j c else p j (c + 1)
theorem xdrop {σ : Mem} {r k : Nat} (hr : r < k) (hk : k ≤ 20) (h8 : σ 1 8 = nI k) : ∃ σ', fX4_dropConstraint σ (nI r) = some σ' ∧ σ' 1 8 = nI (k - 1) ∧ σ' 1 7 = σ 1 7 ∧ (∀ c, c < k - 1 → σ' 4 c = (if c < r then σ 4 c else σ 4 (c + 1)) ∧ σ' 5 c = (if c < r then σ 5 c else σ 5 (c + 1)) ∧ σ' 6 c = (if c < r then σ 6 c else σ 6 (c + 1)) ∧ σ' 7 c = (if c < r then σ 7 c else σ 7 (c + 1))) := by
  have e1 : nI k - nI r - (1 : Int32) = nI (k - r - 1) := by
    have h1 : nI k - nI r = nI (k - r) := by
      have := nI_add (k - r) r
      rw [show k - r + r = k by omega] at this
      rw [← this]
      exact Int32.add_sub_cancel _ _
    rw [h1, nI_d1 (by omega)]
  have ec : ∀ (a : Option Mem), ckc (nI r + (1 : Int32)) (nI r) (nI (k - r - 1)) 20 20 a = a := fun a => by
    unfold ckc
    rw [nI_s, cl_i (by omega), cl_i (by omega), cl_i (by omega), if_neg]
    simp only [not_or]
    exact ⟨nI_pos (by omega), nI_pos (by omega), nI_pos (by omega), by omega, by omega⟩
  have em : ∀ (s : Mem) (q : Nat), mcp s q (nI r + (1 : Int32)) q (nI r) (nI (k - r - 1)) = mw s q (va_cpy (s q) (s q) (r + 1) r (k - r - 1)) := fun s q => by
    unfold mcp
    rw [nI_s, cl_i (by omega), cl_i (by omega), cl_i (by omega)]
  refine ⟨mst (mw (mw (mw (mw σ 4 (va_cpy (σ 4) (σ 4) (r + 1) r (k - r - 1))) 5 (va_cpy (σ 5) (σ 5) (r + 1) r (k - r - 1))) 6 (va_cpy (σ 6) (σ 6) (r + 1) r (k - r - 1))) 7 (va_cpy (σ 7) (σ 7) (r + 1) r (k - r - 1))) 1 8 (nI (k - 1)), ?_, ?_, ?_, fun c hc => ⟨?_, ?_, ?_, ?_⟩⟩
  · unfold fX4_dropConstraint li
    simp only [lt]
    rw [h8, e1, ec, em, ec, em, ec, em, ec, em, mw_ne _ _ (by decide : (5 : Nat) ≠ 4), mw_ne _ _ (by decide : (6 : Nat) ≠ 5), mw_ne _ _ (by decide : (6 : Nat) ≠ 4), mw_ne _ _ (by decide : (7 : Nat) ≠ 6), mw_ne _ _ (by decide : (7 : Nat) ≠ 5), mw_ne _ _ (by decide : (7 : Nat) ≠ 4), mw_ne _ _ (by decide : (1 : Nat) ≠ 7), mw_ne _ _ (by decide : (1 : Nat) ≠ 6), mw_ne _ _ (by decide : (1 : Nat) ≠ 5), mw_ne _ _ (by decide : (1 : Nat) ≠ 4), h8, nI_d1 (by omega)]
  · rw [mst_at, upd_at]
  · rw [mst_at, upd_ne _ _ (by decide), mw_ne _ _ (by decide : (1 : Nat) ≠ 7), mw_ne _ _ (by decide : (1 : Nat) ≠ 6), mw_ne _ _ (by decide : (1 : Nat) ≠ 5), mw_ne _ _ (by decide : (1 : Nat) ≠ 4)]
  · rw [mst_ne _ _ _ (by decide), mw_ne _ _ (by decide : (4 : Nat) ≠ 7), mw_ne _ _ (by decide : (4 : Nat) ≠ 6), mw_ne _ _ (by decide : (4 : Nat) ≠ 5), mw_at]
    exact drop_row _ hr c hc
  · rw [mst_ne _ _ _ (by decide), mw_ne _ _ (by decide : (5 : Nat) ≠ 7), mw_ne _ _ (by decide : (5 : Nat) ≠ 6), mw_at]
    exact drop_row _ hr c hc
  · rw [mst_ne _ _ _ (by decide), mw_ne _ _ (by decide : (6 : Nat) ≠ 7), mw_at]
    exact drop_row _ hr c hc
  · rw [mst_ne _ _ _ (by decide), mw_at]
    exact drop_row _ hr c hc
def dF (f : Nat → Int32) (r i : Nat) : Nat → Int32 := fun c => if r ≤ c ∧ c < i then f (c + 1) else f c
def dM (τ : Mem) (r i : Nat) : Mem := mr τ 127 131 (fun c => dF (τ c) r i)
theorem dF_s (f : Nat → Int32) {r i : Nat} (h : r ≤ i) : upd (dF f r i) i (dF f r i (i + 1)) = dF f r (i + 1) := by
  funext j
  unfold upd dF
  by_cases h1 : j = i
  · rw [if_pos h1, if_neg (by omega), if_pos (by omega), h1]
  · rw [if_neg h1]
    by_cases h2 : r ≤ j ∧ j < i
    · rw [if_pos h2, if_pos (by omega)]
    · rw [if_neg h2, if_neg (by omega)]
theorem dM_s (τ : Mem) {r i : Nat} (h : r ≤ i) : mst (mst (mst (mst (dM τ r i) 127 i (dF (τ 127) r i (i + 1))) 128 i (dF (τ 128) r i (i + 1))) 129 i (dF (τ 129) r i (i + 1))) 130 i (dF (τ 130) r i (i + 1)) = dM τ r (i + 1) := by
  funext c
  unfold dM
  by_cases c0 : c = 130
  · rw [c0, mst_at, mst_ne _ _ _ (by decide), mst_ne _ _ _ (by decide), mst_ne _ _ _ (by decide), mr_in _ _ (by omega), mr_in _ _ (by omega), dF_s _ h]
  rw [mst_ne _ _ _ c0]
  by_cases c1 : c = 129
  · rw [c1, mst_at, mst_ne _ _ _ (by decide), mst_ne _ _ _ (by decide), mr_in _ _ (by omega), mr_in _ _ (by omega), dF_s _ h]
  rw [mst_ne _ _ _ c1]
  by_cases c2 : c = 128
  · rw [c2, mst_at, mst_ne _ _ _ (by decide), mr_in _ _ (by omega), mr_in _ _ (by omega), dF_s _ h]
  rw [mst_ne _ _ _ c2]
  by_cases c3 : c = 127
  · rw [c3, mst_at, mr_in _ _ (by omega), mr_in _ _ (by omega), dF_s _ h]
  rw [mst_ne _ _ _ c3, mr_out _ _ (by omega), mr_out _ _ (by omega)]
theorem dM_loop (τ : Mem) {r k : Nat} (hk : k ≤ 19) (h8 : τ 124 8 = nI k) : ∀ (j i : Nat), i + j = k → r ≤ i → ∀ N, j < N → fX10_removeConstraint_L35 N (dM τ r i) (nI i) = bv (fX10_begins (dM τ r k)) fun σ11 => some (σ11 124 8, σ11) := by
  intro j
  induction j with
  | zero =>
    intro i hi hr N hN
    obtain ⟨N, rfl, hN⟩ := nsub1 hN
    have e : i = k := by omega
    subst e
    rw [show fX10_removeConstraint_L35 (N + 1) = fX10_removeConstraint_B35 (fX10_removeConstraint_L35 N) from rfl]
    unfold fX10_removeConstraint_B35
    rw [if_pos]
    rw [show dM τ r i 124 = τ 124 from mr_out _ _ (by omega), h8]
    exact (le_i (by omega) (by omega)).2 (Nat.le_refl _)
  | succ j ih =>
    intro i hi hr N hN
    obtain ⟨N, rfl, hN⟩ := nsub1 hN
    have hlt : ¬ nI k ≤ nI i := fun h => absurd ((le_i (by omega) (by omega)).1 h) (by omega)
    have d7 : dM τ r i 127 = dF (τ 127) r i := mr_in _ _ (by omega)
    have d8 : dM τ r i 128 = dF (τ 128) r i := mr_in _ _ (by omega)
    have d9 : dM τ r i 129 = dF (τ 129) r i := mr_in _ _ (by omega)
    have d0 : dM τ r i 130 = dF (τ 130) r i := mr_in _ _ (by omega)
    rw [show fX10_removeConstraint_L35 (N + 1) = fX10_removeConstraint_B35 (fX10_removeConstraint_L35 N) from rfl]
    unfold fX10_removeConstraint_B35
    simp only [lt]
    rw [show dM τ r i 124 = τ 124 from mr_out _ _ (by omega), h8, if_neg hlt]
    simp only [nI_s, ck_i (show i + 1 < 20 by omega) (show 20 ≤ 1000000 by omega), ck_i (show i < 20 by omega) (show 20 ≤ 1000000 by omega), cl_i (show i + 1 ≤ 1000000 by omega), cl_i (show i ≤ 1000000 by omega)]
    rw [d7, mst_ne _ _ _ (by decide : (128 : Nat) ≠ 127), d8, mst_ne _ _ _ (by decide : (129 : Nat) ≠ 128), mst_ne _ _ _ (by decide : (129 : Nat) ≠ 127), d9, mst_ne _ _ _ (by decide : (130 : Nat) ≠ 129), mst_ne _ _ _ (by decide : (130 : Nat) ≠ 128), mst_ne _ _ _ (by decide : (130 : Nat) ≠ 127), d0, dM_s _ hr]
    exact ih (i + 1) (by omega) (by omega) N (by omega)
theorem dM_0 (τ : Mem) (r : Nat) : dM τ r r = τ := by
  funext c
  unfold dM
  by_cases h : 127 ≤ c ∧ c < 131
  · rw [mr_in _ _ h]
    funext i
    exact if_neg (by omega)
  · rw [mr_out _ _ h]
theorem S_removeConstraint (a : Int32) : Sim (fun σ => wL_removeConstraint σ a) (fun τ => fX10_removeConstraint τ a) := by
  intro B σ τ hB h
  have h00 := h
  obtain ⟨p, n, k, bs, U, it, h⟩ := h
  have hr := h.2.1
  have hk := hr.1.2.1
  have x1 := hr.2.1.2.1
  have m1 := hr.2.2.1.2.1
  rcases inN k a with ⟨r, hv, rfl⟩ | ha
  · obtain ⟨-, g1, -, -, -, g5, -, g7, g8, g9, gA, -⟩ := R0_0 h 0
    obtain ⟨σ1, τ1, e1, e2, q1, q8, ax, am⟩ := rem_R g1 g8
    obtain ⟨hq, ⟨y1, y2, y3, y4⟩, ⟨w1, w2, w3, w4⟩, w5⟩ := q1
    obtain ⟨σ2, e3, v1, v2, v3⟩ := xdrop hv hk y2
    have ax2 := fq_X4_dropConstraint e3
    generalize ht2 : mst τ1 124 8 (nI (k - 1)) = τ2
    have am2 : Ag (fun c i => c = 124 ∧ i = 8) τ1 τ2 := by rw [← ht2]; exact ag_mst _ _ ⟨rfl, rfl⟩
    have t8 : τ2 124 8 = nI (k - 1) := by rw [← ht2, mst_at, upd_at]
    have t7 : ∀ c, 127 ≤ c → c < 131 → τ2 c = τ1 c := fun c _ _ => by rw [← ht2, mst_ne _ _ _ (by omega)]
    have hdr : ∀ (f g : Nat → Int32) (c : Nat), c < k - 1 → (∀ c, c < k → f c = g c) → dF f r (k - 1) c = if c < r then g c else g (c + 1) := fun f g c hc e => by
      unfold dF
      by_cases h : c < r
      · rw [if_neg (by omega), if_pos h]; exact e c (by omega)
      · rw [if_pos (by omega), if_neg h]; exact e (c + 1) (by omega)
    have hdx : ∀ (f g : Nat → Int32) (c : Nat), c < k - 1 → (∀ c, c < k → f c = g c) → (if c < r then f c else f (c + 1)) = if c < r then g c else g (c + 1) := fun f g c hc e => by
      by_cases h : c < r
      · rw [if_pos h, if_pos h]; exact e c (by omega)
      · rw [if_neg h, if_neg h]; exact e (c + 1) (by omega)
    have am3 : Ag (fun c i => 127 ≤ c ∧ c < 131) τ2 (dM τ2 r (k - 1)) := fun c i hc => by
      unfold dM
      rw [mr_out _ _ hc]
    have q2 : prb (pDrop p r) n (k - 1) σ2 (dM τ2 r (k - 1)) := by
      refine ⟨⟨hq.1, by omega, hq.2.2.1, fun c hc => ?_⟩, ⟨v2.trans y1, v1, fun v hv' => ?_, fun c hc => ?_⟩, ⟨?_, ?_, fun v hv' => ?_, fun c hc => ⟨?_, ?_, ?_, ?_⟩⟩, fun v hv' => ?_⟩
      · show kdOk (if c < r then p 2 c else p 2 (c + 1)) ∧ mkOk (if c < r then p 3 c else p 3 (c + 1)) n ∧ nuOk (if c < r then p 4 c else p 4 (c + 1)) ∧ wtOk (if c < r then p 5 c else p 5 (c + 1))
        by_cases h : c < r
        · rw [if_pos h, if_pos h, if_pos h, if_pos h]; exact hq.2.2.2 c (by omega)
        · rw [if_neg h, if_neg h, if_neg h, if_neg h]; exact hq.2.2.2 (c + 1) (by omega)
      · exact ⟨(ax2 _ _ (by omega)).trans (y3 v hv').1, (ax2 _ _ (by omega)).trans (y3 v hv').2⟩
      · obtain ⟨z1, z2, z3, z4⟩ := v3 c hc
        exact ⟨z1.trans (hdx _ _ c hc (fun c hc => (y4 c hc).1)), z2.trans (hdx _ _ c hc (fun c hc => (y4 c hc).2.1)), z3.trans (hdx _ _ c hc (fun c hc => (y4 c hc).2.2.1)), z4.trans (hdx _ _ c hc (fun c hc => (y4 c hc).2.2.2))⟩
      · exact (am3 _ _ (by omega)).trans ((am2 _ _ (by omega)).trans w1)
      · exact (am3 _ _ (by omega)).trans t8
      · exact (am3 _ _ (by omega)).trans ((am2 _ _ (by omega)).trans (w3 v hv'))
      · rw [show dM τ2 r (k - 1) 127 = dF (τ2 127) r (k - 1) from mr_in _ _ (by omega), t7 _ (by omega) (by omega)]
        exact hdr _ _ c hc (fun c hc => (w4 c hc).1)
      · rw [show dM τ2 r (k - 1) 128 = dF (τ2 128) r (k - 1) from mr_in _ _ (by omega), t7 _ (by omega) (by omega)]
        exact hdr _ _ c hc (fun c hc => (w4 c hc).2.1)
      · rw [show dM τ2 r (k - 1) 129 = dF (τ2 129) r (k - 1) from mr_in _ _ (by omega), t7 _ (by omega) (by omega)]
        exact hdr _ _ c hc (fun c hc => (w4 c hc).2.2.1)
      · rw [show dM τ2 r (k - 1) 130 = dF (τ2 130) r (k - 1) from mr_in _ _ (by omega), t7 _ (by omega) (by omega)]
        exact hdr _ _ c hc (fun c hc => (w4 c hc).2.2.2)
      · exact (am3 _ _ (by omega)).trans ((am2 _ _ (by omega)).trans (w5 v hv'))
    have am4 : Ag (fun c i => c = 124 ∧ i = 8 ∨ 127 ≤ c ∧ c < 131) τ1 (dM τ2 r (k - 1)) := ag_2 am2 (fun _ _ h => Or.inl h) am3 (fun _ _ h => Or.inr h)
    obtain ⟨σ3, τ3, e5, e6, q3, ax3, am5⟩ := fin_R (B := B + 30) q2 (hiR_tr q8 ax2 (fun _ _ _ => by omega) am4 (fun _ _ _ => by omega)) g5 g7 g9 gA (ag_2 (W2 := fun c i => 17 ≤ c ∧ c < 82 ∨ 1 ≤ c ∧ c < 8) ax (fun _ _ _ => by omega) ax2 (fun _ _ _ => by omega)) (fun _ _ _ => by omega) (ag_2 (W2 := fun c i => c = 135 ∨ c = 124 ∧ i = 8 ∨ c = 124 ∧ 28 ≤ i ∧ i < 30 ∨ c = 124 ∧ i = 31 ∨ 125 ≤ c ∧ c < 131) am (fun _ _ _ => by omega) am4 (fun _ _ _ => by omega)) (fun _ _ _ => by omega)
    have z1 : σ3 1 8 = nI (k - 1) := (ax3 _ _ (by omega)).trans v1
    have z2 : τ3 124 8 = nI (k - 1) := (am5 _ _ (by omega)).trans q2.2.2.1.2.1
    have z3 : τ3 124 0 = 0 := (am5 _ _ (by omega)).trans ((am4 _ _ (by omega)).trans ((am _ _ (by omega)).trans (by rw [mst_at, upd_at])))
    refine ⟨0, mst σ3 155 0 (nI (k - 1)), nI (k - 1), τ3, ?_, ?_, RR_155 q3 _, z3, fun _ => by rw [mst_at, upd_at]⟩
    · show wL_removeConstraint σ (nI r) = _
      unfold wL_removeConstraint fX9_removeConstraint
      rw [xcon_ok hk x1 hv, bx_inl, e1, bv_some, e3, bv_some, e5, bv_some, bx_inl, z1]
    · show fX10_removeConstraint τ (nI r) = _
      unfold fX10_removeConstraint
      simp only [lt]
      rw [mcon_ok hk m1 hv, bd_some, if_neg (by decide), e2, bv_some, w2, nI_d1 (by omega), ht2]
      have := dM_loop τ2 (r := r) (k := k - 1) (by omega) t8 (k - 1 - r) r (by omega) (Nat.le_refl _) FU (FU_lt (by omega))
      rw [dM_0] at this
      rw [this, e6, bv_some, z2]
  · refine ⟨1, σ, 0, mst τ 124 0 1, ?_, ?_, RR_0 h00 1, by rw [mst_at, upd_at], fun h => absurd h (by decide)⟩
    · show wL_removeConstraint σ a = _
      unfold wL_removeConstraint fX9_removeConstraint
      rw [xcon_no hk x1 ha, bx_inr, bx_inr, if_pos rfl]
    · show fX10_removeConstraint τ a = _
      unfold fX10_removeConstraint
      rw [mcon_no hk m1 ha, bd_some, if_pos rfl, m_fails, bd_some]
-- members
theorem kdOk_of {a : Int32} (h : (0 : Int32) ≤ a ∧ a ≤ 5) : kdOk a := by
  obtain ⟨s, h1, h2, rfl⟩ := rngN (lo := 0) (hi := 5) (by omega) h.1 h.2 (by omega)
  exact ⟨s, h2, rfl⟩
theorem nuOk_of {a : Int32} (h : (-50 : Int32) ≤ a ∧ a ≤ 50) : nuOk a := by
  by_cases c : 0 ≤ a
  · obtain ⟨s, h1, h2, rfl⟩ := rngN (lo := 0) (hi := 50) (by omega) c h.2 (by omega)
    exact ⟨s, h2, Or.inl rfl⟩
  · have e : ∃ b : Int32, b = -a ∧ 0 ≤ b ∧ b ≤ 50 := by
      refine ⟨-a, rfl, ?_, ?_⟩
      · have h1 := h.1
        rw [Int32.le_iff_toInt_le] at h1 c ⊢
        rw [show (-50 : Int32).toInt = -50 from by decide] at h1
        rw [show (0 : Int32).toInt = 0 from by decide] at c ⊢
        rw [Int32.toInt_neg, Int.bmod_eq_of_le (by omega) (by omega)]
        omega
      · have h1 := h.1
        rw [Int32.le_iff_toInt_le] at h1 c ⊢
        rw [show (-50 : Int32).toInt = -50 from by decide] at h1
        rw [show (0 : Int32).toInt = 0 from by decide] at c
        rw [show (50 : Int32).toInt = 50 from by decide, Int32.toInt_neg, Int.bmod_eq_of_le (by omega) (by omega)]
        omega
    obtain ⟨b, hb, h1, h2⟩ := e
    obtain ⟨s, -, h4, rfl⟩ := rngN (lo := 0) (hi := 50) (by omega) h1 h2 (by omega)
    exact ⟨s, h4, Or.inr (by rw [hb, Int32.neg_neg])⟩
def bcv (x : Int32) : Int32 :=
  let x6 := x - (((x.toUInt32 >>> ((1 : Int32).toUInt32 &&& Int32.toUInt32 31)).toInt32) &&& (1431655765 : Int32))
  let x7 := (x6 &&& (858993459 : Int32)) + (((x6.toUInt32 >>> ((2 : Int32).toUInt32 &&& Int32.toUInt32 31)).toInt32) &&& (858993459 : Int32))
  let x8 := (x7 + ((x7.toUInt32 >>> ((4 : Int32).toUInt32 &&& Int32.toUInt32 31)).toInt32)) &&& (252645135 : Int32)
  let x9 := x8 + ((x8.toUInt32 >>> ((8 : Int32).toUInt32 &&& Int32.toUInt32 31)).toInt32)
  let x10 := x9 + ((x9.toUInt32 >>> ((16 : Int32).toUInt32 &&& Int32.toUInt32 31)).toInt32)
  x10 &&& (63 : Int32)
theorem bc_eq (σ : Mem) (x : Int32) : fJ6_bitCount_0f7a4 σ x = some (bcv x, σ) := rfl
def cntB (m : Int32) : Nat → Int32
  | 0 => 0
  | i + 1 => cntB m i + ((m >>> (nI i &&& 31)) &&& (1 : Int32))
theorem bits_10 : ∀ w : Nat, w < 1024 → bcv (nI w) = cntB (nI w) 10 := by decide +kernel
theorem mem_loop (σ : Mem) (m : Int32) : ∀ (j i : Nat), i + j = 10 → ∀ N, j < N → fX10_membersOf_L4 N σ m (cntB m i) (nI i) = some (cntB m 10, σ) := by
  intro j
  induction j with
  | zero =>
    intro i hi N hN
    obtain ⟨N, rfl, hN⟩ := nsub1 hN
    have e : i = 10 := by omega
    subst e
    rw [show fX10_membersOf_L4 (N + 1) = fX10_membersOf_B4 (fX10_membersOf_L4 N) from rfl]
    unfold fX10_membersOf_B4
    rw [if_pos (by decide)]
  | succ j ih =>
    intro i hi N hN
    obtain ⟨N, rfl, hN⟩ := nsub1 hN
    rw [show fX10_membersOf_L4 (N + 1) = fX10_membersOf_B4 (fX10_membersOf_L4 N) from rfl]
    unfold fX10_membersOf_B4 li
    rw [if_neg (show ¬ (10 : Int32) ≤ nI i from fun h => absurd ((le_i (a := 10) (b := i) (by omega) (by omega)).mp h) (by omega)), nI_s]
    exact ih (i + 1) (by omega) N (by omega)
theorem mem_eq (σ : Mem) (m : Int32) : fX10_membersOf σ m = some (cntB m 10, σ) := mem_loop σ m 10 0 (by omega) FU (FU_lt (by omega))
theorem shr_nI {w n : Nat} (hw : w < 2 ^ 31) (hn : n ≤ 31) : nI w >>> (nI n &&& 31) = nI (w / 2 ^ n) := by
  have key : ∀ n, n ≤ 31 → ((nI n &&& 31).toBitVec.smod 32).toNat = n := by decide +kernel
  exact pk_shrN hw _ n (key n hn)
theorem ushr_nI {w n : Nat} (hw : w < 2 ^ 32) (hn : n ≤ 31) : ((nI w).toUInt32 >>> ((nI n).toUInt32 &&& Int32.toUInt32 31)).toInt32 = nI (w / 2 ^ n) := by
  have key : ∀ n, n ≤ 31 → (((nI n).toUInt32 &&& Int32.toUInt32 31).toBitVec % 32).toNat = n := by decide +kernel
  exact pk_ushrN hw _ n (key n hn)
theorem nI_0iff {w : Nat} (hw : w < 2 ^ 31) : nI w = 0 ↔ w = 0 := nI_eq hw (b := 0) (by decide)
theorem div0 {w n : Nat} : w / 2 ^ n = 0 ↔ w < 2 ^ n := by
  have hp : 0 < 2 ^ n := Nat.pow_pos (by decide)
  constructor
  · intro h
    rcases Nat.div_eq_zero_iff.mp h with h | h
    · omega
    · exact h
  · intro h; exact Nat.div_eq_of_lt h
theorem neg_of {m : Int32} (h : m < 0) : ∃ w : Nat, 2 ^ 31 ≤ w ∧ w < 2 ^ 32 ∧ m = nI w := by
  refine ⟨m.toBitVec.toNat, ?_, m.toBitVec.isLt, ?_⟩
  · rw [Int32.lt_iff_toInt_lt, Int32.toInt_zero] at h
    have e : m.toInt = m.toBitVec.toInt := rfl
    rw [e, BitVec.toInt_eq_toNat_cond] at h
    by_cases c : 2 * m.toBitVec.toNat < 2 ^ 32
    · rw [if_pos c] at h; omega
    · omega
  · apply Int32.toBitVec_inj.mp
    apply BitVec.eq_of_toNat_eq
    show m.toBitVec.toNat = (BitVec.ofNat 32 m.toBitVec.toNat).toNat
    rw [BitVec.toNat_ofNat, Nat.mod_eq_of_lt m.toBitVec.isLt]
/-- the members as both sides want them -/
theorem are_iff {m : Int32} {n : Nat} (hn : n ≤ 10) (σ τ : Mem) (h7 : τ 124 7 = nI n) : (∃ w, w < 2 ^ n ∧ m = nI w ∧ fX9_areMembers σ m (nI n) = some (1, σ) ∧ fX10_doExist τ m = some (1, τ)) ∨ (¬ mkOk m n ∧ fX9_areMembers σ m (nI n) = some (0, σ) ∧ fX10_doExist τ m = some (0, τ)) := by
  have p31 : 2 ^ n ≤ 2 ^ 10 := Nat.pow_le_pow_right (by decide) hn
  by_cases c : m < 0
  · right
    obtain ⟨w, h1, h2, rfl⟩ := neg_of c
    refine ⟨fun ⟨w', hw', e⟩ => ?_, ?_, ?_⟩
    · have : ¬ nI w < 0 := by rw [e]; exact nI_pos (by omega)
      exact this c
    · unfold fX9_areMembers
      rw [ushr_nI h2 (by omega), if_neg]
      intro hh
      have hd : w / 2 ^ n < 2 ^ 32 := Nat.lt_of_le_of_lt (Nat.div_le_self _ _) h2
      have h3 : (nI (w / 2 ^ n)).toBitVec.toNat = (0 : Int32).toBitVec.toNat := by rw [hh]
      have h4 : (nI (w / 2 ^ n)).toBitVec.toNat = w / 2 ^ n := by
        show (BitVec.ofNat 32 (w / 2 ^ n)).toNat = _
        rw [BitVec.toNat_ofNat, Nat.mod_eq_of_lt hd]
      rw [h4] at h3
      have h5 : w / 2 ^ n = 0 := h3
      have := div0.1 h5
      omega
    · unfold fX10_doExist fX10_doExist_L17
      rw [if_pos c]
  · obtain ⟨w, hw, rfl⟩ := nI_of c
    have hd : w / 2 ^ n < 2 ^ 31 := Nat.lt_of_le_of_lt (Nat.div_le_self _ _) hw
    by_cases hwn : w < 2 ^ n
    · left
      refine ⟨w, hwn, rfl, ?_, ?_⟩
      · unfold fX9_areMembers
        rw [ushr_nI (by omega) (by omega), if_pos ((nI_0iff hd).2 (div0.2 hwn))]
      · unfold fX10_doExist
        rw [if_neg c, h7, shr_nI hw (by omega), if_pos ((nI_0iff hd).2 (div0.2 hwn))]
    · right
      refine ⟨fun ⟨w', hw', e⟩ => ?_, ?_, ?_⟩
      · have := (nI_eq hw (by omega)).1 e
        omega
      · unfold fX9_areMembers
        rw [ushr_nI (by omega) (by omega), if_neg (fun hh => hwn (div0.1 ((nI_0iff hd).1 hh)))]
      · unfold fX10_doExist fX10_doExist_L17
        rw [if_neg c, h7, shr_nI hw (by omega), if_neg (fun hh => hwn (div0.1 ((nI_0iff hd).1 hh)))]
theorem S_addConstraint (a m c d : Int32) : Sim (fun σ => wL_addConstraint σ a m c d) (fun τ => fX10_addConstraint τ a m c d) := by
  intro B σ τ hB h
  have h00 := h
  obtain ⟨p, n, k, bs, U, it, h⟩ := h
  have hr := h.2.1
  have hn := hr.1.1
  have hk := hr.1.2.1
  have x1 := hr.2.1.1
  have x2 := hr.2.1.2.1
  have m1 := hr.2.2.1.1
  have m2 := hr.2.2.1.2.1
  have pw : 2 ^ n ≤ 2 ^ 10 := Nat.pow_le_pow_right (by decide) hn
  have no : (wL_addConstraint σ a m c d = some (1, σ)) → (fX10_addConstraint τ a m c d = some (0, mst τ 124 0 1)) → ∃ k σ1 b τ1, wL_addConstraint σ a m c d = some (k, σ1) ∧ fX10_addConstraint τ a m c d = some (b, τ1) ∧ RR (B + 30) σ1 τ1 ∧ τ1 124 0 = k ∧ (k = 0 → σ1 155 0 = b) := fun h1 h2 => ⟨1, σ, 0, mst τ 124 0 1, h1, h2, RR_0 h00 1, by rw [mst_at, upd_at], fun h => absurd h (by decide)⟩
  show ∃ k σ1 b τ1, wL_addConstraint σ a m c d = some (k, σ1) ∧ fX10_addConstraint τ a m c d = some (b, τ1) ∧ RR (B + 30) σ1 τ1 ∧ τ1 124 0 = k ∧ (k = 0 → σ1 155 0 = b)
  by_cases ha : (0 : Int32) ≤ a ∧ a ≤ 5
  rotate_left
  · refine no ?_ ?_
    · unfold wL_addConstraint fX9_addConstraint
      rw [xrange_no σ ha, bx_inr, bx_inr, if_pos rfl]
    · unfold fX10_addConstraint fX10_addConstraint_L47
      rw [mrange_no τ ha, bd_some, if_pos rfl, m_fails, bd_some]
  by_cases hc : (-50 : Int32) ≤ c ∧ c ≤ 50
  rotate_left
  · refine no ?_ ?_
    · unfold wL_addConstraint fX9_addConstraint
      rw [xrange_ok σ ha.1 ha.2, bx_inl, xrange_no σ hc, bx_inr, bx_inr, if_pos rfl]
    · unfold fX10_addConstraint fX10_addConstraint_L47
      rw [mrange_ok τ ha.1 ha.2, bd_some, if_neg (by decide), mrange_no τ hc, bd_some, if_pos rfl, m_fails, bd_some]
  by_cases hd : (1 : Int32) ≤ d ∧ d ≤ 9
  rotate_left
  · refine no ?_ ?_
    · unfold wL_addConstraint fX9_addConstraint
      rw [xrange_ok σ ha.1 ha.2, bx_inl, xrange_ok σ hc.1 hc.2, bx_inl, xrange_no σ hd, bx_inr, bx_inr, if_pos rfl]
    · unfold fX10_addConstraint fX10_addConstraint_L47
      rw [mrange_ok τ ha.1 ha.2, bd_some, if_neg (by decide), mrange_ok τ hc.1 hc.2, bd_some, if_neg (by decide), mrange_no τ hd, bd_some, if_pos rfl, m_fails, bd_some]
  rcases are_iff (m := m) hn σ τ m1 with ⟨w, hw, rfl, hx, hm⟩ | ⟨-, hx, hm⟩
  rotate_left
  · refine no ?_ ?_
    · unfold wL_addConstraint fX9_addConstraint fX9_addConstraint_L44
      rw [xrange_ok σ ha.1 ha.2, bx_inl, xrange_ok σ hc.1 hc.2, bx_inl, xrange_ok σ hd.1 hd.2, bx_inl, bc_eq, bd_some, x1, hx, bd_some]
      by_cases cc : bcv m < 2
      · rw [if_pos cc, bx_inr, if_pos rfl]
      · rw [if_neg cc, if_pos rfl, bx_inr, if_pos rfl]
    · unfold fX10_addConstraint fX10_addConstraint_L47
      rw [mrange_ok τ ha.1 ha.2, bd_some, if_neg (by decide), mrange_ok τ hc.1 hc.2, bd_some, if_neg (by decide), mrange_ok τ hd.1 hd.2, bd_some, if_neg (by decide), hm, bd_some, if_pos rfl, m_fails, bd_some]
  have hbc := bits_10 w (by omega)
  by_cases h2 : cntB (nI w) 10 < 2
  · refine no ?_ ?_
    · unfold wL_addConstraint fX9_addConstraint fX9_addConstraint_L44
      rw [xrange_ok σ ha.1 ha.2, bx_inl, xrange_ok σ hc.1 hc.2, bx_inl, xrange_ok σ hd.1 hd.2, bx_inl, bc_eq, bd_some, hbc, if_pos h2, bx_inr, if_pos rfl]
    · unfold fX10_addConstraint fX10_addConstraint_L47
      rw [mrange_ok τ ha.1 ha.2, bd_some, if_neg (by decide), mrange_ok τ hc.1 hc.2, bd_some, if_neg (by decide), mrange_ok τ hd.1 hd.2, bd_some, if_neg (by decide), hm, bd_some, if_neg (by decide), mem_eq, bd_some, if_neg (fun hh => nl_i hh h2), m_fails, bd_some]
  have h2' : (2 : Int32) ≤ cntB (nI w) 10 := by
    by_cases hh : (2 : Int32) ≤ cntB (nI w) 10
    · exact hh
    · exact absurd (ln_i hh) h2
  by_cases k20 : k = 20
  · subst k20
    refine ⟨2, σ, 0, mst τ 124 0 2, ?_, ?_, RR_0 h00 2, by rw [mst_at, upd_at], fun h => absurd h (by decide)⟩
    · unfold wL_addConstraint fX9_addConstraint
      rw [xrange_ok σ ha.1 ha.2, bx_inl, xrange_ok σ hc.1 hc.2, bx_inl, xrange_ok σ hd.1 hd.2, bx_inl, bc_eq, bd_some, hbc, if_neg h2, x1, hx, bd_some, if_neg (by decide), x2, if_neg (by decide), bx_inr, if_neg (by decide), if_pos rfl]
    · unfold fX10_addConstraint
      rw [mrange_ok τ ha.1 ha.2, bd_some, if_neg (by decide), mrange_ok τ hc.1 hc.2, bd_some, if_neg (by decide), mrange_ok τ hd.1 hd.2, bd_some, if_neg (by decide), hm, bd_some, if_neg (by decide), mem_eq, bd_some, if_pos h2', m2, if_pos (by decide), m_fails, bd_some]
  obtain ⟨-, g1, -, -, -, g5, -, g7, g8, g9, gA, -⟩ := R0_0 h 0
  obtain ⟨σ1, τ1, e1, e2, q1, q8, ax, am⟩ := rem_R g1 g8
  obtain ⟨σ2, τ2, p', e3, e4, q2⟩ := putc_R (a := a) (b := nI w) (c := c) (d := d) q1 (by omega) (kdOk_of ha) ⟨w, hw, rfl⟩ (nuOk_of hc) (wtOk_of hd)
  have ax2 := fq_X4_putConstraint e3
  have am2 := fq_X10_comesConstraint e4
  obtain ⟨σ3, τ3, e5, e6, q3, ax3, am3⟩ := fin_R (B := B + 30) q2 (hiR_tr q8 ax2 (fun _ _ _ => by omega) am2 (fun _ _ _ => by omega)) g5 g7 g9 gA (ag_2 (W2 := fun c i => 17 ≤ c ∧ c < 82 ∨ 1 ≤ c ∧ c < 8) ax (fun _ _ _ => by omega) ax2 (fun _ _ _ => by omega)) (fun _ _ _ => by omega) (ag_2 (W2 := fun c i => c = 135 ∨ c = 124 ∧ i = 8 ∨ c = 124 ∧ 28 ≤ i ∧ i < 30 ∨ c = 124 ∧ i = 31 ∨ 125 ≤ c ∧ c < 131) am (fun _ _ _ => by omega) am2 (fun _ _ _ => by omega)) (fun _ _ _ => by omega)
  have z1 : σ3 1 8 = nI (k + 1) := (ax3 _ _ (by omega)).trans q2.2.1.2.1
  have z2 : τ3 124 8 = nI (k + 1) := (am3 _ _ (by omega)).trans q2.2.2.1.2.1
  have z3 : τ3 124 0 = 0 := (am3 _ _ (by omega)).trans ((am2 _ _ (by omega)).trans ((am _ _ (by omega)).trans (by rw [mst_at, upd_at])))
  refine ⟨0, mst σ3 155 0 (nI k), nI k, τ3, ?_, ?_, RR_155 q3 _, z3, fun _ => by rw [mst_at, upd_at]⟩
  · unfold wL_addConstraint fX9_addConstraint
    rw [xrange_ok σ ha.1 ha.2, bx_inl, xrange_ok σ hc.1 hc.2, bx_inl, xrange_ok σ hd.1 hd.2, bx_inl, bc_eq, bd_some, hbc, if_neg h2, x1, hx, bd_some, if_neg (by decide), x2, if_pos (show nI k < (20 : Int32) from (lt_i (a := k) (b := 20) (by omega) (by omega)).2 (by omega)), e1, bv_some, e3, bv_some, e5, bv_some, bx_inl, z1, nI_p]
  · unfold fX10_addConstraint
    simp only [lt]
    rw [mrange_ok τ ha.1 ha.2, bd_some, if_neg (by decide), mrange_ok τ hc.1 hc.2, bd_some, if_neg (by decide), mrange_ok τ hd.1 hd.2, bd_some, if_neg (by decide), hm, bd_some, if_neg (by decide), mem_eq, bd_some, if_pos h2', m2, if_neg (show ¬ nI k = (20 : Int32) from fun hh => k20 ((eq_i (a := k) (b := 20) (by omega) (by omega)).1 hh)), e2, bv_some, e4, bv_some, e6, bv_some, z2, nI_p]
