/-! PURE, 45: an entry in the class -/
theorem ckz_1 {α : Type} (x : Option α) : ckz 1 x = x := by unfold ckz; exact if_pos (by decide)
theorem ckz_0 {α : Type} (x : Option α) : ckz 0 x = x := by unfold ckz; exact if_pos (by decide)
theorem xsz {f : Nat → Nat} {t a e : Nat} {σ : Mem} (he : e < 20) (h : Xs f t a e σ) : ∃ σ', fX2_parseSize σ = some (if hit f t a 50 56 then 1 else 0, σ') ∧ Xs f t (if hit f t a 50 56 then a + 1 else a) e σ' ∧ (hit f t a 50 56 → σ' 118 e = -1 ∧ σ' 120 e = nI (f a - 48)) ∧ Ag (bA e) σ σ' := by
  unfold fX2_parseSize
  by_cases c : hit f t a 50 56
  · have c2 := c.2.1
    have h1 := Xs_s h c.1
    have w1 : Ag (bA e) σ (mst σ 116 2 (nI (a + 1))) := ag_mst σ _ (Or.inl ⟨rfl, rfl⟩)
    have w2 : Ag (bA e) σ (mst (mst σ 116 2 (nI (a + 1))) 118 e (-1)) := ag_2 w1 (fun _ _ h => h) (ag_mst (W := bA e) _ _ (Or.inr ⟨by omega, by omega, rfl⟩)) (fun _ _ h => h)
    have h2 : Xs f t (a + 1) e (mst (mst σ 116 2 (nI (a + 1))) 118 e (-1)) := Xs_ag h1 (ag_mst (W := fun c i => c = 118 ∧ i = e) _ _ ⟨rfl, rfl⟩) (fun _ _ _ => by omega)
    rw [show fX2_take σ 50 56 = _ from xtake_y (lo := 50) (hi := 56) h (by omega) (by omega) c, bd_some, h1.2.2.2.2.2.1, ck_i he (by omega), cl_i (by omega), lt_e2, h2.2.2.2.2.2.1, ck_i he (by omega), cl_i (by omega), lt_e2, if_neg (neg1 h c.1), if_pos c, if_pos c, show nI (f a) - (48 : Int32) = nI (f a - 48) from nI_sub (b := 48) (by omega)]
    exact ⟨_, rfl, Xs_ag h2 (ag_mst (W := fun c i => c = 120 ∧ i = e) _ _ ⟨rfl, rfl⟩) (fun _ _ _ => by omega), fun _ => ⟨by rw [mst_ne _ _ _ (by decide), mst_at, upd_at], by rw [mst_at, upd_at]⟩, ag_2 w2 (fun _ _ h => h) (ag_mst (W := bA e) _ _ (Or.inr ⟨by omega, by omega, rfl⟩)) (fun _ _ h => h)⟩
  · have w2 : Ag (bA e) σ (mst σ 118 e (-1)) := ag_mst (W := bA e) σ _ (Or.inr ⟨by omega, by omega, rfl⟩)
    have h2 : Xs f t a e (mst σ 118 e (-1)) := Xs_ag h (ag_mst (W := fun c i => c = 118 ∧ i = e) _ _ ⟨rfl, rfl⟩) (fun _ _ _ => by omega)
    rw [show fX2_take σ 50 56 = _ from xtake_n (lo := 50) (hi := 56) h (by omega) (by omega) c, bd_some, h.2.2.2.2.2.1, ck_i he (by omega), cl_i (by omega), lt_e2, h2.2.2.2.2.2.1, ck_i he (by omega), cl_i (by omega), lt_e2, if_pos rfl, if_neg c, if_neg c]
    exact ⟨_, rfl, Xs_ag h2 (ag_mst (W := fun c i => c = 120 ∧ i = e) _ _ ⟨rfl, rfl⟩) (fun _ _ _ => by omega), fun q => absurd q c, ag_2 w2 (fun _ _ h => h) (ag_mst (W := bA e) _ _ (Or.inr ⟨by omega, by omega, rfl⟩)) (fun _ _ h => h)⟩
def tl59 (K : Mem → Option (Int32 × Mem)) (X : Option (Int32 × Mem)) : Option (Int32 × Mem) := bd X fun v6 σ6 => if v6 = 0 then (fX2_parse_L38 σ6) else (bd (fX2_take σ6 (59 : Int32) (59 : Int32)) fun v7 σ7 => if v7 = (-1 : Int32) then (fX2_parse_L38 σ7) else K σ7)
theorem tl59_0 (K : Mem → Option (Int32 × Mem)) (σ : Mem) : tl59 K (some (0, σ)) = some (0, σ) := by
  unfold tl59 fX2_parse_L38
  rw [bd_some, if_pos rfl]
theorem tl59_y {f : Nat → Nat} {t a e : Nat} {σ : Mem} (K : Mem → Option (Int32 × Mem)) (h : Xs f t a e σ) (c : hit f t a 59 59) : tl59 K (some (1, σ)) = K (mst σ 116 2 (nI (a + 1))) := by
  unfold tl59
  rw [bd_some, if_neg (show ¬ (1 : Int32) = 0 by decide), show fX2_take σ 59 59 = _ from xtake_y (lo := 59) (hi := 59) h (by omega) (by omega) c, bd_some, if_neg (neg1 h c.1)]
theorem tl59_n {f : Nat → Nat} {t a e : Nat} {σ : Mem} (K : Mem → Option (Int32 × Mem)) (h : Xs f t a e σ) (c : ¬ hit f t a 59 59) : tl59 K (some (1, σ)) = some (0, σ) := by
  unfold tl59 fX2_parse_L38
  rw [bd_some, if_neg (show ¬ (1 : Int32) = 0 by decide), show fX2_take σ 59 59 = _ from xtake_n (lo := 59) (hi := 59) h (by omega) (by omega) c, bd_some, if_pos rfl]
theorem bA_w {e q : Nat} {σ σ' : Mem} (hq : 118 ≤ q ∧ q < 122) (w : Ag (fun c i => c = 116 ∧ i = 2 ∨ c = q ∧ i = e) σ σ') : Ag (bA e) σ σ' := ag_w w (fun _ _ h => by omega)
theorem xent {f : Nat → Nat} {t a e : Nat} {σ : Mem} (K : Mem → Option (Int32 × Mem)) (he : e < 20) (h : Xs f t a e σ) : ∃ σ', tl59 K (fX2_parseEntry σ) = (if (enS f t a).1 = true then K σ' else some (0, σ')) ∧ Xs f t (enS f t a).2.1 e σ' ∧ ((enS f t a).1 = true → xE e σ' (enS f t a)) ∧ Ag (bA e) σ σ' := by
  unfold fX2_parseEntry fX2_parseEntry_L49 enS
  have w0 : ∀ (σ : Mem) (x : Int32), Ag (bA e) σ (mst σ 116 2 x) := fun σ x => ag_mst σ _ (Or.inl ⟨rfl, rfl⟩)
  by_cases c : hit f t a 118 118
  · have h1 := Xs_s h c.1
    rw [show fX2_take σ 118 118 = _ from xtake_y (lo := 118) (hi := 118) h (by omega) (by omega) c, bd_some, if_neg (neg1 h c.1), if_pos c]
    obtain ⟨σ2, e2, h2, z2, a2⟩ := xsz he h1
    have a02 : Ag (bA e) σ σ2 := ag_2 (w0 σ _) (fun _ _ h => h) a2 (fun _ _ h => h)
    rw [e2, bd_some]
    by_cases d : hit f t (a + 1) 50 56
    · have d2 := d.2.1
      have d3 := d.2.2
      rw [if_pos d, ckz_1, if_pos d]
      rw [if_pos d] at h2
      obtain ⟨z3, z4⟩ := z2 d
      by_cases g : hit f t (a + 2) 59 59
      · rw [tl59_y K h2 g, if_pos g]
        refine ⟨_, (if_pos rfl).symm, Xs_s h2 g.1, fun _ => Or.inl ⟨?_, ?_, ?_, ?_⟩, ag_2 a02 (fun _ _ h => h) (w0 _ _) (fun _ _ h => h)⟩
        · show 2 ≤ f (a + 1) - 48; omega
        · show f (a + 1) - 48 ≤ 8; omega
        · rw [mst_ne _ _ _ (by decide)]; exact z3
        · rw [mst_ne _ _ _ (by decide)]; exact z4
      · rw [tl59_n K h2 g, if_neg g]
        exact ⟨σ2, (if_neg (fun hh => f_t hh)).symm, h2, fun hh => f_t hh, a02⟩
    · rw [if_neg d, ckz_0, if_neg d, tl59_0]
      rw [if_neg d] at h2
      exact ⟨σ2, (if_neg (fun hh => f_t hh)).symm, h2, fun hh => f_t hh, a02⟩
  · rw [show fX2_take σ 118 118 = _ from xtake_n (lo := 118) (hi := 118) h (by omega) (by omega) c, bd_some, if_pos rfl, if_neg c]
    obtain ⟨σ2, e2, h2, z2, a2⟩ := xkd he h
    have a2 := bA_w (by omega) a2
    rw [e2, bd_some]
    by_cases d : hit f t a 97 102
    · have d2 := d.2.1
      have d3 := d.2.2
      rw [if_pos d, if_neg (show ¬ (1 : Int32) = 0 by decide), if_pos d]
      rw [if_pos d] at h2
      have z2 := z2 d
      obtain ⟨σ3, e3, h3, z3, a3⟩ := xmem he h2
      rw [e3, bd_some]
      have a03 : Ag (bA e) σ σ3 := ag_2 a2 (fun _ _ h => h) (bA_w (by omega) a3) (fun _ _ h => h)
      have k3 : σ3 118 e = nI (f a - 97) := (a3 _ _ (by omega)).trans z2
      cases q3 : (mbS f t (a + 1)).1 with
      | false =>
        rw [if_pos (show b01 false = 0 from rfl), tl59_0, if_neg (fun hh => f_t hh)]
        exact ⟨σ3, (if_neg (fun hh => f_t hh)).symm, h3, fun hh => f_t hh, a03⟩
      | true =>
        have z3 := z3 q3
        rw [if_neg (show ¬ b01 true = 0 by decide), if_pos rfl]
        generalize mbS f t (a + 1) = R3 at *
        obtain ⟨σ4, e4, h4, z4, a4⟩ := xnm he h3
        rw [e4, bd_some]
        have a04 : Ag (bA e) σ σ4 := ag_2 a03 (fun _ _ h => h) (bA_w (by omega) a4) (fun _ _ h => h)
        have k4 : σ4 118 e = nI (f a - 97) := (a4 _ _ (by omega)).trans k3
        have k4' : σ4 119 e = R3.2.2 := (a4 _ _ (by omega)).trans z3
        cases q4 : (nmS f t R3.2.1).1 with
        | false =>
          rw [if_pos (show b01 false = 0 from rfl), tl59_0, if_neg (fun hh => f_t hh)]
          exact ⟨σ4, (if_neg (fun hh => f_t hh)).symm, h4, fun hh => f_t hh, a04⟩
        | true =>
          have z4 := z4 q4
          have nu := (nmS_ok q4).1
          rw [if_neg (show ¬ b01 true = 0 by decide), if_pos rfl]
          generalize nmS f t R3.2.1 = R4 at *
          obtain ⟨σ5, e5, h5, z5, a5⟩ := xwt he h4
          rw [e5, bd_some]
          have a05 : Ag (bA e) σ σ5 := ag_2 a04 (fun _ _ h => h) (bA_w (by omega) a5) (fun _ _ h => h)
          unfold en1
          by_cases g : hit f t R4.2.1 49 57
          · have g2 := g.2.1
            have g3 := g.2.2
            rw [if_pos g, if_neg (show ¬ (1 : Int32) = 0 by decide), if_pos g]
            rw [if_pos g] at h5
            by_cases o : hit f t (R4.2.1 + 1) 59 59
            · rw [tl59_y K h5 o, if_pos o]
              refine ⟨_, (if_pos rfl).symm, Xs_s h5 o.1, fun _ => Or.inr ⟨rfl, ?_, ?_, ?_, nu, ?_, ?_, ?_, ?_⟩, ag_2 a05 (fun _ _ h => h) (w0 _ _) (fun _ _ h => h)⟩
              · show f a - 97 ≤ 5; omega
              · show 1 ≤ f R4.2.1 - 48; omega
              · show f R4.2.1 - 48 ≤ 9; omega
              · rw [mst_ne _ _ _ (by decide)]; exact (a5 _ _ (by omega)).trans k4
              · rw [mst_ne _ _ _ (by decide)]; exact (a5 _ _ (by omega)).trans k4'
              · rw [mst_ne _ _ _ (by decide)]; exact (a5 _ _ (by omega)).trans z4
              · rw [mst_ne _ _ _ (by decide)]; exact z5 g
            · rw [tl59_n K h5 o, if_neg o]
              exact ⟨σ5, (if_neg (fun hh => f_t hh)).symm, h5, fun hh => f_t hh, a05⟩
          · rw [if_neg g, if_pos rfl, tl59_0, if_neg g]
            rw [if_neg g] at h5
            exact ⟨σ5, (if_neg (fun hh => f_t hh)).symm, h5, fun hh => f_t hh, a05⟩
    · rw [if_neg d, if_pos rfl, tl59_0, if_neg d]
      rw [if_neg d] at h2
      exact ⟨σ2, (if_neg (fun hh => f_t hh)).symm, h2, fun hh => f_t hh, a2⟩
