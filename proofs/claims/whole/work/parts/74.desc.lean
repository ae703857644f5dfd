/-! PURE, 34: describe; the share of improving steps -/
def teT (len : Nat) (σ τ : Mem) : Prop := σ 122 1 = nI len ∧ τ 124 57 = nI len ∧ ∀ j, j < len → σ 123 j = τ 154 j
abbrev WD : Nat → Nat → Prop := fun c i => c = 122 ∧ i = 1 ∨ c = 123
abbrev WT : Nat → Nat → Prop := fun c i => c = 124 ∧ i = 57 ∨ c = 154
theorem li_e {γ : Type} (x : Int32) (K : Int32 → γ) : li x K = K x := Eq.trans (Eq.refl (li x K)) (Eq.refl (K x))
theorem char_k : ∀ c, c ≤ 200 → vp_nar .char (((nI c).toUInt32 % 65536).toInt32) = nI c := by decide +kernel
theorem tell {len c : Nat} {σ τ : Mem} (h : teT len σ τ) (hl : len < 18) (hc : c ≤ 200) : ∃ σ' τ', fX0_put σ (nI c) = some σ' ∧ fX10_tells τ (nI c) = some τ' ∧ teT (len + 1) σ' τ' ∧ Ag WD σ σ' ∧ Ag WT τ τ' := by
  obtain ⟨h1, h2, h3⟩ := h
  have e1 : fX0_put σ (nI c) = some (mst (mst σ 123 len (nI c)) 122 1 (nI (len + 1))) := by
    unfold fX0_put
    rw [h1, if_neg (show ¬ (18 : Int32) ≤ nI len from fun h => absurd ((le_i (a := 18) (b := len) (by omega) (by omega)).1 h) (by omega)), ck_i hl (by omega), lt_e2, lt_e2, cl_i (by omega), char_k c hc, mst_ne _ _ _ (by decide : (122 : Nat) ≠ 123), h1, nI_s]
  have e2 : fX10_tells τ (nI c) = some (mst (mst τ 154 len (nI c)) 124 57 (nI (len + 1))) := by
    unfold fX10_tells
    rw [h2, ck_i (by omega) (by omega), lt_e2, lt_e2, cl_i (by omega), mst_ne _ _ _ (by decide : (124 : Nat) ≠ 154), h2, nI_s]
  refine ⟨_, _, e1, e2, ⟨by rw [mst_at, upd_at], by rw [mst_at, upd_at], fun j hj => ?_⟩, ag_w (fq_X0_put e1) (fun _ _ h => h), ag_w (fq_X10_tells e2) (fun _ _ h => h)⟩
  rw [mst_ne _ _ _ (by decide), mst_at, mst_ne _ _ _ (by decide), mst_at]
  exact upd_cong _ (fun e => h3 j (by omega))
theorem hb_hi {m : Int32} {n v : Nat} (h : mkOk m n) (hn : n ≤ v) (hv : v < 10) : hb m v = false := by
  obtain ⟨w, hw, rfl⟩ := h
  have h1 : 2 ^ n ≤ 2 ^ v := Nat.pow_le_pow_right (by decide) hn
  have h2 : 2 ^ v ≤ 2 ^ 10 := Nat.pow_le_pow_right (by decide) (by omega)
  unfold hb
  rw [shr_nI (by omega) (by omega), Nat.div_eq_of_lt (by omega)]
  rfl
theorem desc_mem {p : Nat → Nat → Int32} {n k c : Nat} {σ τ : Mem} (hv : vld p n k) (hx : isX 1 σ p n k) (hm : isM τ p n k) (hc : c < k) : ∀ (j v : Nat), v + j = n → ∀ N N', j < N → j + (10 - n) < N' → ∀ len σ1 τ1, Ag WD σ σ1 → Ag WT τ τ1 → teT len σ1 τ1 → len ≤ 1 + v → ∃ N2 N3 len2 σ2 τ2, fX0_write_L20 N σ1 (nI c) (nI v) = fX0_write_B20 (fX0_write_L20 N2) σ2 (nI c) (nI n) ∧ fX10_findTold_L20 N' τ1 (nI c) (nI v) = fX10_findTold_B20 (fX10_findTold_L20 N3) τ2 (nI c) (nI 10) ∧ Ag WD σ σ2 ∧ Ag WT τ τ2 ∧ teT len2 σ2 τ2 ∧ len2 ≤ 11 := by
  have hn := hv.1
  have hk := hv.2.1
  have hmk := (hv.2.2.2 c hc).2.1
  intro j
  induction j with
  | zero =>
    intro v hvn N N' hN hN' len σ1 τ1 a a' hT hl
    obtain ⟨N, rfl, hN⟩ := nsub1 hN
    have e : v = n := by omega
    subst e
    have tail : ∀ (q u : Nat), u + q = 10 → v ≤ u → ∀ N', q < N' → ∃ N3, fX10_findTold_L20 N' τ1 (nI c) (nI u) = fX10_findTold_B20 (fX10_findTold_L20 N3) τ1 (nI c) (nI 10) := by
      intro q
      induction q with
      | zero =>
        intro u hu hvu N' hN'
        obtain ⟨N', rfl, hN'⟩ := nsub1 hN'
        have e : u = 10 := by omega
        subst e
        exact ⟨N', rfl⟩
      | succ q ihq =>
        intro u hu hvu N' hN'
        obtain ⟨N', rfl, hN'⟩ := nsub1 hN'
        obtain ⟨N3, e3⟩ := ihq (u + 1) (by omega) (by omega) N' (by omega)
        refine ⟨N3, ?_⟩
        rw [← e3]
        have st : fX10_findTold_B20 (fX10_findTold_L20 N') τ1 (nI c) (nI u) = fX10_findTold_L20 N' τ1 (nI c) (nI (u + 1)) := by
          unfold fX10_findTold_B20 fX10_findTold_L47
          rw [if_neg (show ¬ (10 : Int32) ≤ nI u from fun h => absurd ((le_i (a := 10) (b := u) (by omega) (by omega)).1 h) (by omega)), ck_i (by omega) (by omega), cl_i (by omega), a' 128 c (by omega), (hm.1.2.2.2 c hc).2.1, has_f _ (hb_hi hmk hvu (by omega)), bd_some, if_pos rfl, nI_s]
        exact st
    obtain ⟨N3, e3⟩ := tail (10 - v) v (by omega) (Nat.le_refl _) N' (by omega)
    exact ⟨N, N3, len, σ1, τ1, rfl, e3, a, a', hT, by omega⟩
  | succ j ih =>
    intro v hvn N N' hN hN' len σ1 τ1 a a' hT hl
    obtain ⟨N, rfl, hN⟩ := nsub1 hN
    obtain ⟨N', rfl, hN'⟩ := nsub1 hN'
    have x5 : σ1 5 c = p 3 c := (a _ _ (by omega)).trans (hx.2.2.2 c hc).2.1
    have m5 : τ1 128 c = p 3 c := (a' _ _ (by omega)).trans (hm.1.2.2.2 c hc).2.1
    have hlt : ¬ nI n ≤ nI v := fun h => absurd ((le_i (by omega) (by omega)).1 h) (by omega)
    have hlt2 : ¬ (10 : Int32) ≤ nI v := fun h => absurd ((le_i (a := 10) (b := v) (by omega) (by omega)).1 h) (by omega)
    have stx : ∀ σ2, (hb (p 3 c) v = true → fX0_put σ1 ((48 : Int32) + nI v) = some σ2) → (hb (p 3 c) v = false → σ2 = σ1) → fX0_write_L20 (N + 1) σ1 (nI c) (nI v) = fX0_write_L20 N σ2 (nI c) (nI (v + 1)) := fun σ2 h1 h2 => by
      rw [show fX0_write_L20 (N + 1) = fX0_write_B20 (fX0_write_L20 N) from rfl]
      unfold fX0_write_B20 fX0_write_L45
      rw [a 1 7 (by omega), hx.1, if_neg hlt]
      cases hh : hb (p 3 c) v with
      | true => rw [xmem_t (by omega) (by rw [x5]; exact hh), bd_some, if_neg (by decide), h1 hh, bv_some, nI_s]
      | false => rw [xmem_f (by omega) (by rw [x5]; exact hh), bd_some, if_pos rfl, h2 hh, nI_s]
    have stm : ∀ τ2, (hb (p 3 c) v = true → fX10_tells τ1 ((48 : Int32) + nI v) = some τ2) → (hb (p 3 c) v = false → τ2 = τ1) → fX10_findTold_L20 (N' + 1) τ1 (nI c) (nI v) = fX10_findTold_L20 N' τ2 (nI c) (nI (v + 1)) := fun τ2 h1 h2 => by
      rw [show fX10_findTold_L20 (N' + 1) = fX10_findTold_B20 (fX10_findTold_L20 N') from rfl]
      unfold fX10_findTold_B20 fX10_findTold_L47
      rw [if_neg hlt2, ck_i (by omega) (by omega), cl_i (by omega), m5]
      cases hh : hb (p 3 c) v with
      | true => rw [has_t _ hh, bd_some, if_neg (by decide), h1 hh, bv_some, nI_s]
      | false => rw [has_f _ hh, bd_some, if_pos rfl, h2 hh, nI_s]
    have e48 : (48 : Int32) + nI v = nI (48 + v) := nI_add 48 v
    cases hh : hb (p 3 c) v with
    | true =>
      obtain ⟨σ2, τ2, e1, e2, hT2, a2, a2'⟩ := tell (c := 48 + v) hT (by omega) (by omega)
      rw [stx σ2 (fun _ => by rw [e48]; exact e1) (fun h => by rw [hh] at h; cases h), stm τ2 (fun _ => by rw [e48]; exact e2) (fun h => by rw [hh] at h; cases h)]
      exact ih (v + 1) (by omega) N N' (by omega) (by omega) (len + 1) σ2 τ2 (ag_2 a (fun _ _ h => h) a2 (fun _ _ h => h)) (ag_2 a' (fun _ _ h => h) a2' (fun _ _ h => h)) hT2 (by omega)
    | false =>
      rw [stx σ1 (fun h => by rw [hh] at h; cases h) (fun _ => rfl), stm τ1 (fun h => by rw [hh] at h; cases h) (fun _ => rfl)]
      exact ih (v + 1) (by omega) N N' (by omega) (by omega) len σ1 τ1 a a' hT (by omega)
theorem dg_i : ∀ a, a ≤ 50 → (48 : Int32) + nI a / 10 = nI (48 + a / 10) ∧ (48 : Int32) + (nI a - nI a / 10 * 10) = nI (48 + a % 10) := by decide +kernel
/-- the digits of a number up to 50, and what comes behind them on both sides -/
theorem desc_num {len a : Nat} {σ τ : Mem} (h : teT len σ τ) (hl : len ≤ 13) (ha : a ≤ 50) (l1 : Int32) : ∃ len2 σ2 τ2, fX0_putNumber_L15 σ (nI a) = some σ2 ∧ fX10_findTold_L100 τ l1 (nI a) = (bv (fX10_tells τ2 (42 : Int32)) fun σ13 => ck l1 20 (bv (fX10_tells σ13 ((48 : Int32) + (σ13 130 l1.toNatClampNeg))) fun σ14 => bv (fX10_tells σ14 (59 : Int32)) fun σ15 => some σ15)) ∧ teT len2 σ2 τ2 ∧ len2 ≤ 15 ∧ Ag WD σ σ2 ∧ Ag WT τ τ2 := by
  obtain ⟨d1, d2⟩ := dg_i a ha
  unfold fX0_putNumber_L15 fX0_putNumber_L32 fX10_findTold_L100 fX10_findTold_L117
  rw [d1, d2]
  by_cases c : a ≤ 9
  · obtain ⟨σ2, τ2, e1, e2, hT2, a2, a2'⟩ := tell (c := 48 + a % 10) h (by omega) (by omega)
    have h9 : nI a ≤ (9 : Int32) := (le_i (a := a) (b := 9) (by omega) (by omega)).2 c
    rw [if_pos h9, if_pos h9, e1, e2, bv_some, bv_some]
    exact ⟨len + 1, σ2, τ2, rfl, rfl, hT2, by omega, a2, a2'⟩
  · have h9 : ¬ nI a ≤ (9 : Int32) := fun h => c ((le_i (a := a) (b := 9) (by omega) (by omega)).1 h)
    obtain ⟨σ1, τ1, f1, f2, hT1, a1, a1'⟩ := tell (c := 48 + a / 10) h (by omega) (by omega)
    obtain ⟨σ2, τ2, e1, e2, hT2, a2, a2'⟩ := tell (c := 48 + a % 10) hT1 (by omega) (by omega)
    rw [if_neg h9, if_neg h9, f1, f2, bv_some, bv_some, e1, e2, bv_some, bv_some]
    exact ⟨len + 1 + 1, σ2, τ2, rfl, rfl, hT2, by omega, ag_2 a1 (fun _ _ h => h) a2 (fun _ _ h => h), ag_2 a1' (fun _ _ h => h) a2' (fun _ _ h => h)⟩
theorem write_R {p : Nat → Nat → Int32} {n k c : Nat} {σ τ : Mem} (hv : vld p n k) (hx : isX 1 σ p n k) (hm : isM τ p n k) (hc : c < k) : ∃ len σ' τ', fX0_write σ (nI c) = some σ' ∧ fX10_findTold τ (nI c) = some τ' ∧ teT len σ' τ' ∧ len ≤ 18 := by
  have hn := hv.1
  have hk := hv.2.1
  obtain ⟨x2, x3, x4, x5⟩ := hx.2.2.2 c hc
  obtain ⟨m2, m3, m4, m5⟩ := hm.1.2.2.2 c hc
  obtain ⟨⟨kd, hkd, ekd⟩, -, hnu, ⟨w, hw1, hw9, ew⟩⟩ := hv.2.2.2 c hc
  generalize hs0 : mst σ 122 1 0 = σ0
  generalize ht0 : mst τ 124 57 0 = τ0
  have a0 : Ag WD σ σ0 := by rw [← hs0]; exact ag_mst _ _ (Or.inl ⟨rfl, rfl⟩)
  have b0 : Ag WT τ τ0 := by rw [← ht0]; exact ag_mst _ _ (Or.inl ⟨rfl, rfl⟩)
  have hT0 : teT 0 σ0 τ0 := ⟨by rw [← hs0, mst_at, upd_at]; rfl, by rw [← ht0, mst_at, upd_at]; rfl, fun j hj => absurd hj (Nat.not_lt_zero j)⟩
  obtain ⟨σ1, τ1, e1, e2, hT1, a1, b1⟩ := tell (c := 97 + kd) hT0 (by omega) (by omega)
  have a01 : Ag WD σ σ1 := ag_2 a0 (fun _ _ h => h) a1 (fun _ _ h => h)
  have b01 : Ag WT τ τ1 := ag_2 b0 (fun _ _ h => h) b1 (fun _ _ h => h)
  obtain ⟨N2, N3, len2, σ2, τ2, e3, e4, a2, b2, hT2, hl2⟩ := desc_mem hv hx hm hc n 0 (by omega) FU FU (FU_lt (by omega)) (FU_lt (by omega)) 1 σ1 τ1 a01 b01 hT1 (by omega)
  rw [nI_0] at e3 e4
  obtain ⟨σ3, τ3, e5, e6, hT3, a3, b3⟩ := tell (c := 58) hT2 (by omega) (by omega)
  have a03 : Ag WD σ σ3 := ag_2 a2 (fun _ _ h => h) a3 (fun _ _ h => h)
  have b03 : Ag WT τ τ3 := ag_2 b2 (fun _ _ h => h) b3 (fun _ _ h => h)
  -- the number
  have num : ∃ len4 σ4 τ4, fX0_putNumber σ3 (p 4 c) = some σ4 ∧ (fX10_findTold_L84 τ3 (nI c) (if 0 ≤ p 4 c then p 4 c else -(p 4 c)) = (bv (fX10_tells τ4 (42 : Int32)) fun σ13 => ck (nI c) 20 (bv (fX10_tells σ13 ((48 : Int32) + (σ13 130 (nI c).toNatClampNeg))) fun σ14 => bv (fX10_tells σ14 (59 : Int32)) fun σ15 => some σ15))) ∧ teT len4 σ4 τ4 ∧ len4 ≤ 15 ∧ Ag WD σ3 σ4 ∧ Ag WT τ3 τ4 := by
    have m4' : τ3 129 c = p 4 c := (b03 _ _ (by omega)).trans m4
    by_cases cs : 0 ≤ p 4 c
    · obtain ⟨a, ha, ea⟩ : ∃ a : Nat, a ≤ 50 ∧ p 4 c = nI a := by
        obtain ⟨a, ha, ea | ea⟩ := hnu
        · exact ⟨a, ha, ea⟩
        · by_cases a0 : a = 0
          · subst a0; exact ⟨0, by omega, by rw [ea]; decide⟩
          · rw [ea] at cs
            exfalso
            have key : ∀ a, a ≤ 50 → a ≠ 0 → ¬ (0 : Int32) ≤ -nI a := by decide +kernel
            exact key a ha a0 cs
      obtain ⟨len4, σ4, τ4, f1, f2, hT4, hl4, a4, b4⟩ := desc_num hT3 (by omega) ha (nI c)
      refine ⟨len4, σ4, τ4, ?_, ?_, hT4, hl4, a4, b4⟩
      · unfold fX0_putNumber
        rw [li_e, if_pos cs, if_pos cs, ea]
        exact f1
      · rw [if_pos cs]
        unfold fX10_findTold_L84
        rw [ck_i (by omega) (by omega), cl_i (by omega), m4', if_pos cs, ea]
        rw [cl_i (show c ≤ 1000000 by omega)] at f2
        exact f2
    · obtain ⟨a, ha, ea⟩ : ∃ a : Nat, a ≤ 50 ∧ p 4 c = -nI a := by
        obtain ⟨a, ha, ea | ea⟩ := hnu
        · rw [ea] at cs
          exact absurd (nI_pos' (by omega)) cs
        · exact ⟨a, ha, ea⟩
      have eneg : -(p 4 c) = nI a := by rw [ea, Int32.neg_neg]
      obtain ⟨σ5, τ5, g1, g2, hT5, a5, b5⟩ := tell (c := 45) hT3 (by omega) (by omega)
      obtain ⟨len4, σ4, τ4, f1, f2, hT4, hl4, a4, b4⟩ := desc_num hT5 (by omega) ha (nI c)
      have g1' : fX0_put σ3 (45 : Int32) = some σ5 := g1
      have g2' : fX10_tells τ3 (45 : Int32) = some τ5 := g2
      refine ⟨len4, σ4, τ4, ?_, ?_, hT4, hl4, ag_2 a5 (fun _ _ h => h) a4 (fun _ _ h => h), ag_2 b5 (fun _ _ h => h) b4 (fun _ _ h => h)⟩
      · unfold fX0_putNumber
        rw [li_e, if_neg cs, if_neg cs, Int32.zero_sub, eneg, g1', bv_some]
        exact f1
      · rw [if_neg cs, eneg]
        unfold fX10_findTold_L84
        rw [ck_i (by omega) (by omega), cl_i (by omega), m4', if_neg cs, g2', bv_some]
        rw [cl_i (show c ≤ 1000000 by omega)] at f2
        exact f2
  obtain ⟨len4, σ4, τ4, f1, f2, hT4, hl4, a4, b4⟩ := num
  have a04 : Ag WD σ σ4 := ag_2 a03 (fun _ _ h => h) a4 (fun _ _ h => h)
  have b04 : Ag WT τ τ4 := ag_2 b03 (fun _ _ h => h) b4 (fun _ _ h => h)
  obtain ⟨σ5, τ5, e7, e8, hT5, a5, b5⟩ := tell (c := 42) hT4 (by omega) (by omega)
  have b05 : Ag WT τ τ5 := ag_2 b04 (fun _ _ h => h) b5 (fun _ _ h => h)
  have a05 : Ag WD σ σ5 := ag_2 a04 (fun _ _ h => h) a5 (fun _ _ h => h)
  obtain ⟨σ6, τ6, e9, e10, hT6, a6, b6⟩ := tell (c := 48 + w) hT5 (by omega) (by omega)
  obtain ⟨σ7, τ7, e11, e12, hT7, a7, b7⟩ := tell (c := 59) hT6 (by omega) (by omega)
  have e5' : fX0_put σ2 (58 : Int32) = some σ3 := e5
  have e6' : fX10_tells τ2 (58 : Int32) = some τ3 := e6
  have e7' : fX0_put σ4 (42 : Int32) = some σ5 := e7
  have e8' : fX10_tells τ4 (42 : Int32) = some τ5 := e8
  have e11' : fX0_put σ6 (59 : Int32) = some σ7 := e11
  have e12' : fX10_tells τ6 (59 : Int32) = some τ7 := e12
  refine ⟨len4 + 1 + 1 + 1, σ7, τ7, ?_, ?_, hT7, by omega⟩
  · unfold fX0_write
    rw [lt_e2, hs0, ck_i (by omega) (by omega), cl_i (by omega), a0 4 c (by omega), show σ 4 c = p 2 c from x2, ekd, show (97 : Int32) + nI kd = nI (97 + kd) from nI_add 97 kd, e1, bv_some, e3]
    unfold fX0_write_B20
    rw [a2 1 7 (by omega), hx.1, if_pos (Int32.le_refl _), e5', bv_some, ck_i (by omega) (by omega), cl_i (by omega), a03 6 c (by omega), show σ 6 c = p 4 c from x4, f1, bv_some, e7', bv_some, ck_i (by omega) (by omega), a05 7 c (by omega), show σ 7 c = p 5 c from x5, ew]
    have hpw : fX0_putNumber σ5 (nI w) = some σ6 := by
      unfold fX0_putNumber fX0_putNumber_L15 fX0_putNumber_L32
      have hw0 : (0 : Int32) ≤ nI w := nI_pos' (by omega)
      rw [li_e, if_pos hw0, if_pos hw0, if_pos (show nI w ≤ (9 : Int32) from (le_i (a := w) (b := 9) (by omega) (by omega)).2 hw9), (dg_i w (by omega)).2, show w % 10 = w by omega, e9, bv_some]
    rw [hpw, bv_some, e11', bv_some]
  · unfold fX10_findTold
    rw [lt_e2, ht0, ck_i (by omega) (by omega), cl_i (by omega), b0 127 c (by omega), m2, ekd, show (97 : Int32) + nI kd = nI (97 + kd) from nI_add 97 kd, e2, bv_some, e4]
    unfold fX10_findTold_B20
    rw [if_pos (by decide), e6', bv_some]
    simp only [ck_i (show c < 20 by omega) (show 20 ≤ 1000000 by omega), cl_i (show c ≤ 1000000 by omega), b03 129 c (by omega), m4]
    have f3 : (if 0 ≤ p 4 c then fX10_findTold_L84 τ3 (nI c) (p 4 c) else fX10_findTold_L84 τ3 (nI c) (-(p 4 c))) = fX10_findTold_L84 τ3 (nI c) (if 0 ≤ p 4 c then p 4 c else -(p 4 c)) := by
      by_cases cs : 0 ≤ p 4 c
      · rw [if_pos cs, if_pos cs]
      · rw [if_neg cs, if_neg cs]
    rw [f3, f2, e8', bv_some, ck_i (by omega) (by omega), cl_i (by omega), b05 130 c (by omega), m5, ew, show (48 : Int32) + nI w = nI (48 + w) from nI_add 48 w, e10, bv_some, e12', bv_some]
theorem S_describe (a b : Int32) : Sim (fun σ => wL_describe σ a b) (fun τ => fX10_describe τ a b) := by
  intro B σ τ hB h
  dsimp only
  have h00 := h
  obtain ⟨p, n, k, bs, U, it, h⟩ := h
  have hr := h.2.1
  have hk := hr.1.2.1
  rcases inN k a with ⟨c, hc, rfl⟩ | ha
  · obtain ⟨len, σ1, τ1, e1, e2, ⟨t1, t2, t3⟩, hl⟩ := write_R hr.1 hr.2.1 hr.2.2 hc
    have ax := fq_X0_write e1
    have am := fq_X10_findTold e2
    by_cases hb : (-1 : Int32) ≤ b ∧ b ≤ nI len - 1
    · have hmb := mrange_ok τ1 hb.1 hb.2
      by_cases b0 : b < 0
      · have bm : b = -1 := by
          rw [Int32.lt_iff_toInt_lt, show (0 : Int32).toInt = 0 from by decide] at b0
          have h1 := hb.1
          rw [Int32.le_iff_toInt_le, show (-1 : Int32).toInt = -1 from by decide] at h1
          apply Int32.toInt_inj.mp
          rw [show (-1 : Int32).toInt = -1 from by decide]
          omega
        refine q_ok h00 (nI len) ax (fun _ _ _ _ => by omega) (a_m0' am 0) (fun _ _ _ _ _ => by omega) ?_ ?_ (m00 _ _)
        · unfold wL_describe fX9_describe
          rw [xcon_ok hk hr.2.1.2.1 hc, bx_inl, e1, bv_some, if_pos bm, bx_inl, t1]
        · unfold fX10_describe
          rw [mcon_ok hk hr.2.2.1.2.1 hc, bd_some, if_neg (by decide), e2, bv_some, t2, hmb, bd_some, if_neg (by decide), lt_e2]
          have nb : ¬ 0 ≤ b := fun hh => nl_i hh b0
          first
            | rw [if_neg nb, m0n _ _ (by decide), t2]
            | rw [if_pos b0, m0n _ _ (by decide), t2]
      · obtain ⟨j, hj, rfl⟩ := nI_of b0
        have hjl : j < len := by
          have h2 := hb.2
          by_cases l0 : len = 0
          · subst l0
            exact absurd (Int32.le_trans (nI_pos' hj) h2) (by decide)
          · rw [nI_d1 (by omega)] at h2
            have := (nI_leI hj (by omega)).1 h2
            omega
        refine q_ok h00 (τ1 154 j) ax (fun _ _ _ _ => by omega) (a_m0' am 0) (fun _ _ _ _ _ => by omega) ?_ ?_ (m00 _ _)
        · unfold wL_describe fX9_describe
          rw [xcon_ok hk hr.2.1.2.1 hc, bx_inl, e1, bv_some, if_neg (nI_m1 (by omega)), if_neg b0, t1, if_pos ((lt_i (by omega) (by omega)).2 hjl), ck_i (by omega) (by omega), bx_inl, cl_i (by omega), t3 j hjl]
        · unfold fX10_describe
          rw [mcon_ok hk hr.2.2.1.2.1 hc, bd_some, if_neg (by decide), e2, bv_some, t2, hmb, bd_some, if_neg (by decide), lt_e2]
          have pb : (0 : Int32) ≤ nI j := nI_pos' hj
          first
            | rw [if_pos pb, ck_i (by omega) (by omega), cl_i (by omega), mst_ne _ _ _ (by decide : (154 : Nat) ≠ 124)]
            | rw [if_neg b0, ck_i (by omega) (by omega), cl_i (by omega), mst_ne _ _ _ (by decide : (154 : Nat) ≠ 124)]
    · refine q_no2 h00 2 (by decide) ax (fun _ _ _ _ => by omega) am (fun _ _ _ _ _ => by omega) ?_ ?_
      · unfold wL_describe fX9_describe fX9_describe_L45
        rw [xcon_ok hk hr.2.1.2.1 hc, bx_inl, e1, bv_some]
        have nm : ¬ b = -1 := fun hh => by
          subst hh
          refine hb ⟨Int32.le_refl _, ?_⟩
          by_cases l0 : len = 0
          · subst l0; decide
          · rw [nI_d1 (by omega)]
            exact Int32.le_trans (by decide : (-1 : Int32) ≤ 0) (nI_pos' (by omega))
        rw [if_neg nm]
        by_cases b0 : b < 0
        · rw [if_pos b0, bx_inr, if_neg (by decide), if_pos rfl]
        · obtain ⟨j, hj, rfl⟩ := nI_of b0
          rw [if_neg b0, t1, if_neg (fun hh => by
            have hjl := (nI_ltI hj (by omega)).1 hh
            refine hb ⟨Int32.le_trans (by decide : (-1 : Int32) ≤ 0) (nI_pos' hj), ?_⟩
            rw [nI_d1 (by omega)]
            exact (nI_leI hj (by omega)).2 (by omega)), bx_inr, if_neg (by decide), if_pos rfl]
      · unfold fX10_describe
        rw [mcon_ok hk hr.2.2.1.2.1 hc, bd_some, if_neg (by decide), e2, bv_some, t2, mrange_no τ1 hb, bd_some, if_pos rfl, m_fails, bd_some]
  · refine q_no h00 1 (by decide) ?_ ?_
    · unfold wL_describe fX9_describe
      rw [xcon_no hk hr.2.1.2.1 ha, bx_inr, bx_inr, if_pos rfl]
    · unfold fX10_describe
      rw [mcon_no hk hr.2.2.1.2.1 ha, bd_some, if_pos rfl, m_fails, bd_some]
