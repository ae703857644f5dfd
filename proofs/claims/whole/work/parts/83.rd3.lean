/-! PURE, 43: a number in the text, the reference's side -/
def tl42 (K : Mem → Option (Int32 × Mem)) (X : Option (Int32 × Mem)) : Option (Int32 × Mem) := bd X fun v27 σ27 => if v27 = 0 then (fX10_takesEntry_L143 σ27) else (bd (fX10_skips σ27 (42 : Int32)) fun v28 σ28 => if v28 = 0 then (fX10_takesEntry_L143 σ28) else K σ28)
abbrev wM (e : Nat) : Nat → Nat → Prop := fun c i => c = 124 ∧ i = 53 ∨ c = 152 ∧ i = e
def nmR (f : Nat → Nat) (t e : Nat) (K : Mem → Option (Int32 × Mem)) (r : Bool × Nat × Int32) (X : Option (Int32 × Mem)) (τ : Mem) : Prop := ∃ τ', tl42 K X = (if r.1 = true then K τ' else some (0, τ')) ∧ Ms f t r.2.1 e τ' ∧ (r.1 = true → τ' 152 e = r.2.2) ∧ Ag (wM e) τ τ'
theorem nmR_ag {f : Nat → Nat} {t e : Nat} {K : Mem → Option (Int32 × Mem)} {r : Bool × Nat × Int32} {X : Option (Int32 × Mem)} {τ0 τ : Mem} (w : Ag (fun c i => c = 124 ∧ i = 53) τ0 τ) (h : nmR f t e K r X τ) : nmR f t e K r X τ0 := by
  obtain ⟨τ', e1, e2, e3, e4⟩ := h
  exact ⟨τ', e1, e2, e3, ag_2 w (fun _ _ h => Or.inl h) e4 (fun _ _ h => h)⟩
theorem mnm3 {f : Nat → Nat} {t a e x : Nat} {τ : Mem} (s : Bool) (K : Mem → Option (Int32 × Mem)) (he : e < 20) (h : Ms f t a e τ) : nmR f t e K (nm3 f t s a x) (fX10_takesNumber_L98 τ (b01 s) (nI x)) τ := by
  have core : ∀ y : Int32, y = (if s = true then -nI x else nI x) → nmR f t e K (nm3 f t s a x) (fX10_takesNumber_L116 τ (nI e) y) τ := by
    intro y hy
    have h1 : Ms f t a e (mst τ 152 e y) := Ms_ag h (ag_mst (W := fun c i => c = 152 ∧ i = e) τ y ⟨rfl, rfl⟩) (fun _ _ _ => by omega)
    unfold nmR tl42 fX10_takesNumber_L116 nm3 fX10_takesEntry_L143
    rw [ck_i (by omega) (by omega), cl_i (by omega), lt_e2, bd_some, if_neg (by decide)]
    by_cases c : hit f t a 42 42
    · rw [show fX10_skips (mst τ 152 e y) 42 = _ from mskip_y (lo := 42) h1 (by omega) c, bd_some, if_neg (by decide), if_pos c]
      exact ⟨_, (if_pos rfl).symm, Ms_s h1 c.1, fun _ => by rw [mst_ne _ _ _ (by decide), mst_at, upd_at]; exact hy, ag_2 (ag_mst (W := fun c i => c = 152 ∧ i = e) τ y ⟨rfl, rfl⟩) (fun _ _ h => Or.inr h) (ag_mst (W := fun c i => c = 124 ∧ i = 53) _ _ ⟨rfl, rfl⟩) (fun _ _ h => Or.inl h)⟩
    · rw [show fX10_skips (mst τ 152 e y) 42 = _ from mskip_n (lo := 42) h1 (by omega) c, bd_some, if_pos rfl, if_neg c]
      exact ⟨_, (if_neg (fun hh => f_t hh)).symm, h1, fun hh => f_t hh, ag_mst τ y (Or.inr ⟨rfl, rfl⟩)⟩
  unfold fX10_takesNumber_L98
  rw [h.2.2.2.2.2.1]
  cases s with
  | false => rw [if_pos (show b01 false = 0 from rfl)]; exact core _ (if_neg (by decide)).symm
  | true => rw [if_neg (show ¬ b01 true = 0 by decide)]; exact core _ (if_pos rfl).symm
/-- the sign has been read: the digits -/
theorem mnm64 {f : Nat → Nat} {t a e d hi : Nat} {τ : Mem} (s : Bool) (K : Mem → Option (Int32 × Mem)) (he : e < 20) (hd : d < 10) (hh : hi ≤ 57) (h : Ms f t a e τ) : nmR f t e K (if hit f t a 48 hi then nm3 f t s (a + 1) (10 * d + (f a - 48)) else nm3 f t s a d) (fX10_takesNumber_L64 τ (b01 s) (nI d) 48 (nI hi)) τ := by
  unfold fX10_takesNumber_L64
  by_cases c : hit f t a 48 hi
  · have c2 := c.2.1
    have c3 := c.2.2
    rw [show fX10_isNext τ 48 (nI hi) = _ from mnext_y (lo := 48) h (by omega) (by omega) c, bd_some, if_neg (show ¬ (1 : Int32) = 0 by decide), (mcur h c.1 _).1, (mcur (α := Int32) h c.1 none).2, if_pos c, show ((10 : Int32) * nI d + nI (f a)) - (48 : Int32) = nI (10 * d + (f a - 48)) from by
        rw [show (10 : Int32) * nI d = nI (10 * d) from nI_mul 10 _, nI_add]
        exact (nI_sub (b := 48) (by omega)).trans (congrArg nI (by omega)), li_e, h.2.2.2.2.1, nI_s, lt_e2]
    exact nmR_ag (ag_mst (W := fun c i => c = 124 ∧ i = 53) τ _ ⟨rfl, rfl⟩) (mnm3 s K he (Ms_s h c.1))
  · rw [show fX10_isNext τ 48 (nI hi) = _ from mnext_n (lo := 48) h (by omega) (by omega) c, bd_some, if_pos rfl, if_neg c]
    exact mnm3 s K he h
theorem mnm2 {f : Nat → Nat} {t a e : Nat} {τ : Mem} (s : Bool) (K : Mem → Option (Int32 × Mem)) (he : e < 20) (h : Ms f t a e τ) : nmR f t e K (nm2 f t s a) (bd (fX10_isNext τ (48 : Int32) (57 : Int32)) fun v14 σ14 => if v14 = 0 then (some ((0 : Int32), σ14)) else (ck (σ14 124 53) 60 (li ((σ14 148 (σ14 124 53).toNatClampNeg) - (48 : Int32)) fun x15 => lt (mst σ14 124 53 ((σ14 124 53) + (1 : Int32))) fun σ16 => if (6 : Int32) ≤ x15 then (fX10_takesNumber_L98 σ16 (b01 s) x15) else (if x15 = (5 : Int32) then (fX10_takesNumber_L64 σ16 (b01 s) x15 (48 : Int32) (48 : Int32)) else (fX10_takesNumber_L64 σ16 (b01 s) x15 (48 : Int32) (57 : Int32)))))) τ := by
  by_cases c : hit f t a 48 57
  · have c2 := c.2.1
    have c3 := c.2.2
    have h1 := Ms_s h c.1
    unfold nm2
    rw [show fX10_isNext τ 48 57 = _ from mnext_y (lo := 48) (hi := 57) h (by omega) (by omega) c, bd_some, if_neg (show ¬ (1 : Int32) = 0 by decide), (mcur h c.1 _).1, (mcur (α := Int32) h c.1 none).2, if_pos c, show nI (f a) - (48 : Int32) = nI (f a - 48) from nI_sub (b := 48) (by omega), li_e, h.2.2.2.2.1, nI_s, lt_e2]
    refine nmR_ag (ag_mst (W := fun c i => c = 124 ∧ i = 53) τ (nI (a + 1)) ⟨rfl, rfl⟩) ?_
    by_cases c6 : 6 ≤ f a - 48
    · rw [if_pos (show (6 : Int32) ≤ nI (f a - 48) from (le_i (a := 6) (by omega) (by omega)).2 c6), if_neg (show ¬ hit f t (a + 1) 48 (hiN (f a - 48)) from fun q => by
        have q2 := q.2.1
        have q3 := q.2.2
        unfold hiN at q3
        rw [if_neg (by omega)] at q3
        omega)]
      exact mnm3 s K he h1
    · rw [if_neg (show ¬ (6 : Int32) ≤ nI (f a - 48) from fun q => c6 ((le_i (a := 6) (by omega) (by omega)).1 q))]
      by_cases c5 : f a - 48 = 5
      · rw [if_pos (show nI (f a - 48) = (5 : Int32) by rw [c5]; rfl), show hiN (f a - 48) = 48 by rw [c5]; rfl]
        exact mnm64 (hi := 48) s K he (by omega) (by omega) h1
      · rw [if_neg (show ¬ nI (f a - 48) = (5 : Int32) from fun q => c5 ((eq_i (b := 5) (by omega) (by omega)).1 q)), show hiN (f a - 48) = 57 from if_pos (by omega)]
        exact mnm64 (hi := 57) s K he (by omega) (by omega) h1
  · unfold nm2 nmR tl42 fX10_takesEntry_L143
    rw [show fX10_isNext τ 48 57 = _ from mnext_n (lo := 48) (hi := 57) h (by omega) (by omega) c, bd_some, if_pos rfl, bd_some, if_pos rfl, if_neg c]
    exact ⟨τ, (if_neg (fun hh => f_t hh)).symm, h, fun hh => f_t hh, ag_r⟩
theorem mnm {f : Nat → Nat} {t a e : Nat} {τ : Mem} (K : Mem → Option (Int32 × Mem)) (he : e < 20) (h : Ms f t a e τ) : nmR f t e K (nmS f t a) (fX10_takesNumber τ) τ := by
  unfold fX10_takesNumber nmS
  by_cases c : hit f t a 45 45
  · rw [show fX10_skips τ 45 = _ from mskip_y (lo := 45) h (by omega) c, bd_some, if_pos c]
    exact nmR_ag (ag_mst (W := fun c i => c = 124 ∧ i = 53) τ _ ⟨rfl, rfl⟩) (mnm2 true K he (Ms_s h c.1))
  · rw [show fX10_skips τ 45 = _ from mskip_n (lo := 45) h (by omega) c, bd_some, if_neg c]
    exact mnm2 false K he h
