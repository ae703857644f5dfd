/-! PURE, 46: an entry in the reference -/
abbrev cM (e : Nat) : Nat → Nat → Prop := fun c i => c = 124 ∧ 53 ≤ i ∧ i < 55 ∨ 149 ≤ c ∧ c < 154 ∧ i = e
theorem Ms_e {f : Nat → Nat} {t a e : Nat} {τ : Mem} (he : e < 20) (h : Ms f t a e τ) : Ms f t a (e + 1) (mst τ 124 54 (nI (e + 1))) := by
  obtain ⟨h1, h2, h3, h4, h5, h6, h7⟩ := h
  refine ⟨h1, h2, he, ?_, ?_, by rw [mst_at, upd_at], fun j hj => ⟨(h7 j hj).1, by rw [mst_ne _ _ _ (by decide)]; exact (h7 j hj).2⟩⟩
  · rw [mst_at, upd_ne _ _ (by decide)]; exact h4
  · rw [mst_at, upd_ne _ _ (by decide)]; exact h5
theorem m166 {f : Nat → Nat} {t a e : Nat} {τ : Mem} (he : e < 20) (h : Ms f t a e τ) (ha : a < t) : ∃ τ', fX10_takesEntry_L166 τ = some (b01 (decide (hit f t (a + 1) 59 59)), τ') ∧ τ' 124 53 = nI (if hit f t (a + 1) 59 59 then a + 2 else a + 1) ∧ (hit f t (a + 1) 59 59 → Ms f t (a + 2) (e + 1) τ') ∧ Ag (fun c i => c = 124 ∧ 53 ≤ i ∧ i < 55) τ τ' := by
  have h1 := Ms_s h ha
  have h2 := Ms_e he h1
  have w : Ag (fun c i => c = 124 ∧ 53 ≤ i ∧ i < 55) τ (mst (mst τ 124 53 (nI (a + 1))) 124 54 (nI (e + 1))) := ag_2 (ag_mst (W := fun c i => c = 124 ∧ 53 ≤ i ∧ i < 55) _ _ ⟨rfl, by omega, by omega⟩) (fun _ _ h => h) (ag_mst (W := fun c i => c = 124 ∧ 53 ≤ i ∧ i < 55) _ _ ⟨rfl, by omega, by omega⟩) (fun _ _ h => h)
  unfold fX10_takesEntry_L166
  rw [h.2.2.2.2.1, nI_s, lt_e2, h1.2.2.2.2.2.1, nI_s, lt_e2]
  by_cases c : hit f t (a + 1) 59 59
  · rw [show fX10_skips (mst (mst τ 124 53 (nI (a + 1))) 124 54 (nI (e + 1))) 59 = _ from mskip_y (lo := 59) h2 (by omega) c, bd_some, ckz_1, if_pos c, decide_eq_true c]
    exact ⟨_, rfl, by rw [mst_at, upd_at], fun _ => Ms_s h2 c.1, ag_2 w (fun _ _ h => h) (ag_mst (W := fun c i => c = 124 ∧ 53 ≤ i ∧ i < 55) _ _ ⟨rfl, by omega, by omega⟩) (fun _ _ h => h)⟩
  · rw [show fX10_skips (mst (mst τ 124 53 (nI (a + 1))) 124 54 (nI (e + 1))) 59 = _ from mskip_n (lo := 59) h2 (by omega) c, bd_some, ckz_0, if_neg c, decide_eq_false c]
    exact ⟨_, rfl, h2.2.2.2.2.1, fun q => absurd q c, w⟩
theorem ment {f : Nat → Nat} {t a e : Nat} {τ : Mem} (he : e < 20) (h : Ms f t a e τ) : ∃ τ', fX10_takesEntry τ = some (b01 (enS f t a).1, τ') ∧ τ' 124 53 = nI (enS f t a).2.1 ∧ ((enS f t a).1 = true → Ms f t (enS f t a).2.1 (e + 1) τ' ∧ mE e τ' (enS f t a)) ∧ Ag (cM e) τ τ' := by
  have w0 : ∀ (τ : Mem) (x : Int32), Ag (cM e) τ (mst τ 124 53 x) := fun τ x => ag_mst τ _ (Or.inl ⟨rfl, by omega, by omega⟩)
  unfold fX10_takesEntry fX10_takesEntry_L143 enS
  by_cases c : hit f t a 118 118
  · have h1 := Ms_s h c.1
    rw [show fX10_skips τ 118 = _ from mskip_y (lo := 118) h (by omega) c, bd_some, if_neg (show ¬ (1 : Int32) = 0 by decide), if_pos c]
    by_cases d : hit f t (a + 1) 50 56
    · have d2 := d.2.1
      have d3 := d.2.2
      have h2 : Ms f t (a + 1) e (mst (mst τ 124 53 (nI (a + 1))) 149 e (nI (f (a + 1) - 48))) := Ms_ag h1 (ag_mst (W := fun c i => c = 149 ∧ i = e) _ _ ⟨rfl, rfl⟩) (fun _ _ _ => by omega)
      obtain ⟨τ', e3, p3, m3, a3⟩ := m166 he h2 d.1
      rw [show fX10_isNext (mst τ 124 53 (nI (a + 1))) 50 56 = _ from mnext_y (lo := 50) (hi := 56) h1 (by omega) (by omega) d, bd_some, if_neg (show ¬ (1 : Int32) = 0 by decide), (mcur h1 d.1 _).1, (mcur (α := Int32) h1 d.1 none).2, h1.2.2.2.2.2.1, ck_i (by omega) (by omega), cl_i (by omega), show nI (f (a + 1)) - (48 : Int32) = nI (f (a + 1) - 48) from nI_sub (b := 48) (by omega), lt_e2, e3, if_pos d]
      have a4 : Ag (cM e) τ τ' := ag_2 (ag_2 (w0 τ _) (fun _ _ h => h) (ag_mst (W := cM e) _ _ (Or.inr ⟨by omega, by omega, rfl⟩)) (fun _ _ h => h)) (fun _ _ h => h) a3 (fun _ _ h => Or.inl h)
      by_cases g : hit f t (a + 2) 59 59
      · rw [if_pos g, decide_eq_true g]
        rw [if_pos g] at p3
        refine ⟨τ', rfl, p3, fun _ => ⟨m3 g, ?_, fun hz => ?_⟩, a4⟩
        · rw [a3 149 e (by omega), mst_at, upd_at]
        · have hz : f (a + 1) - 48 = 0 := hz
          omega
      · rw [if_neg g, decide_eq_false g]
        rw [if_neg g] at p3
        exact ⟨τ', rfl, p3, fun hh => f_t hh, a4⟩
    · rw [show fX10_isNext (mst τ 124 53 (nI (a + 1))) 50 56 = _ from mnext_n (lo := 50) (hi := 56) h1 (by omega) (by omega) d, bd_some, if_pos rfl, if_neg d]
      exact ⟨_, rfl, h1.2.2.2.2.1, fun hh => f_t hh, w0 _ _⟩
  · rw [show fX10_skips τ 118 = _ from mskip_n (lo := 118) h (by omega) c, bd_some, if_pos rfl, if_neg c]
    by_cases d : hit f t a 97 102
    · have d2 := d.2.1
      have d3 := d.2.2
      generalize hτ1 : mst τ 149 e 0 = τ1
      have b1 : Ag (fun c i => c = 149 ∧ i = e) τ τ1 := by rw [← hτ1]; exact ag_mst τ _ ⟨rfl, rfl⟩
      have h1 : Ms f t a e τ1 := Ms_ag h b1 (fun _ _ _ => by omega)
      generalize hτ2 : mst τ1 150 e (nI (f a - 97)) = τ2
      have b2 : Ag (fun c i => c = 150 ∧ i = e) τ1 τ2 := by rw [← hτ2]; exact ag_mst τ1 _ ⟨rfl, rfl⟩
      have h2 : Ms f t a e τ2 := Ms_ag h1 b2 (fun _ _ _ => by omega)
      have h3 := Ms_s h2 d.1
      have k149 : (mst τ2 124 53 (nI (a + 1))) 149 e = 0 := by
        rw [mst_ne _ _ _ (by decide), b2 149 e (by omega), ← hτ1, mst_at, upd_at]
      have k150 : (mst τ2 124 53 (nI (a + 1))) 150 e = nI (f a - 97) := by
        rw [mst_ne _ _ _ (by decide), ← hτ2, mst_at, upd_at]
      have b3 : Ag (cM e) τ (mst τ2 124 53 (nI (a + 1))) := ag_2 (ag_2 b1 (W2 := cM e) (fun _ _ h => by omega) b2 (fun _ _ h => by omega)) (fun _ _ h => h) (w0 τ2 _) (fun _ _ h => h)
      rw [show fX10_isNext τ 97 102 = _ from mnext_y (lo := 97) (hi := 102) h (by omega) (by omega) d, bd_some, if_neg (show ¬ (1 : Int32) = 0 by decide), h.2.2.2.2.2.1, ck_i (by omega) (by omega), cl_i (by omega), lt_e2, hτ1, (mcur h1 d.1 _).1, (mcur (α := Int32) h1 d.1 none).2, h1.2.2.2.2.2.1, ck_i (by omega) (by omega), cl_i (by omega), show nI (f a) - (97 : Int32) = nI (f a - 97) from nI_sub (b := 97) (by omega), lt_e2, hτ2, h2.2.2.2.2.1, nI_s, lt_e2, if_pos d]
      -- members
      obtain ⟨τ4, e4, h4, z4, a4⟩ := mmem he h3 (fun σ26 => tl42 (fun σ28 => bd (fX10_isNext σ28 (49 : Int32) (57 : Int32)) fun v29 σ29 => if v29 = 0 then (fX10_takesEntry_L143 σ29) else (ck (σ29 124 53) 60 (ck (σ29 124 54) 30 (lt (mst σ29 153 (σ29 124 54).toNatClampNeg ((σ29 148 (σ29 124 53).toNatClampNeg) - (48 : Int32))) fun σ30 => fX10_takesEntry_L166 σ30)))) (fX10_takesNumber σ26))
      unfold tl42 fX10_takesEntry_L143 at e4
      rw [e4]
      have b4 : Ag (cM e) τ τ4 := ag_2 b3 (fun _ _ h => h) a4 (fun _ _ h => by omega)
      have k149 := (a4 149 e (by omega)).trans k149
      have k150 := (a4 150 e (by omega)).trans k150
      cases q4 : (mbS f t (a + 1)).1 with
      | false =>
        rw [if_neg (fun hh => f_t hh), if_neg (fun hh => f_t hh)]
        exact ⟨τ4, rfl, h4.2.2.2.2.1, fun hh => f_t hh, b4⟩
      | true =>
        have z4 := z4 q4
        rw [if_pos rfl, if_pos rfl]
        generalize mbS f t (a + 1) = R4 at *
        obtain ⟨τ5, e5, h5, z5, a5⟩ := mnm (fun σ28 => bd (fX10_isNext σ28 (49 : Int32) (57 : Int32)) fun v29 σ29 => if v29 = 0 then (fX10_takesEntry_L143 σ29) else (ck (σ29 124 53) 60 (ck (σ29 124 54) 30 (lt (mst σ29 153 (σ29 124 54).toNatClampNeg ((σ29 148 (σ29 124 53).toNatClampNeg) - (48 : Int32))) fun σ30 => fX10_takesEntry_L166 σ30)))) he h4
        unfold tl42 fX10_takesEntry_L143 at e5
        rw [e5]
        have b5 : Ag (cM e) τ τ5 := ag_2 b4 (fun _ _ h => h) a5 (fun _ _ h => by omega)
        have k149 := (a5 149 e (by omega)).trans k149
        have k150 := (a5 150 e (by omega)).trans k150
        have k151 := (a5 151 e (by omega)).trans z4
        cases q5 : (nmS f t R4.2.1).1 with
        | false =>
          rw [if_neg (fun hh => f_t hh), if_neg (fun hh => f_t hh)]
          exact ⟨τ5, rfl, h5.2.2.2.2.1, fun hh => f_t hh, b5⟩
        | true =>
          have z5 := z5 q5
          rw [if_pos rfl, if_pos rfl]
          generalize nmS f t R4.2.1 = R5 at *
          unfold en1
          dsimp only
          by_cases g : hit f t R5.2.1 49 57
          · have g2 := g.2.1
            have g3 := g.2.2
            generalize hτ6 : mst τ5 153 e (nI (f R5.2.1 - 48)) = τ6
            have b6 : Ag (fun c i => c = 153 ∧ i = e) τ5 τ6 := by rw [← hτ6]; exact ag_mst τ5 _ ⟨rfl, rfl⟩
            have h6 : Ms f t R5.2.1 e τ6 := Ms_ag h5 b6 (fun _ _ _ => by omega)
            obtain ⟨τ7, e7, p7, m7, a7⟩ := m166 he h6 g.1
            have b7 : Ag (cM e) τ τ7 := ag_2 (ag_2 b5 (fun _ _ h => h) b6 (W2 := cM e) (fun _ _ h => by omega)) (fun _ _ h => h) a7 (fun _ _ h => Or.inl h)
            rw [show fX10_isNext τ5 49 57 = _ from mnext_y (lo := 49) (hi := 57) h5 (by omega) (by omega) g, bd_some, if_neg (show ¬ (1 : Int32) = 0 by decide), (mcur h5 g.1 _).1, (mcur (α := Int32) h5 g.1 none).2, h5.2.2.2.2.2.1, ck_i (by omega) (by omega), cl_i (by omega), show nI (f R5.2.1) - (48 : Int32) = nI (f R5.2.1 - 48) from nI_sub (b := 48) (by omega), lt_e2, hτ6, e7, if_pos g]
            by_cases o : hit f t (R5.2.1 + 1) 59 59
            · rw [if_pos o, decide_eq_true o]
              rw [if_pos o] at p7
              refine ⟨τ7, rfl, p7, fun _ => ⟨m7 o, ?_, fun _ => ⟨?_, ?_, ?_, ?_⟩⟩, b7⟩
              · exact (a7 149 e (by omega)).trans ((b6 149 e (by omega)).trans k149)
              · exact (a7 150 e (by omega)).trans ((b6 150 e (by omega)).trans k150)
              · exact (a7 151 e (by omega)).trans ((b6 151 e (by omega)).trans k151)
              · exact (a7 152 e (by omega)).trans ((b6 152 e (by omega)).trans z5)
              · rw [a7 153 e (by omega), ← hτ6, mst_at, upd_at]
            · rw [if_neg o, decide_eq_false o]
              rw [if_neg o] at p7
              exact ⟨τ7, rfl, p7, fun hh => f_t hh, b7⟩
          · rw [show fX10_isNext τ5 49 57 = _ from mnext_n (lo := 49) (hi := 57) h5 (by omega) (by omega) g, bd_some, if_pos rfl, if_neg g]
            exact ⟨τ5, rfl, h5.2.2.2.2.1, fun hh => f_t hh, b5⟩
    · rw [show fX10_isNext τ 97 102 = _ from mnext_n (lo := 97) (hi := 102) h (by omega) (by omega) d, bd_some, if_pos rfl, if_neg d]
      exact ⟨τ, rfl, h.2.2.2.2.1, fun hh => f_t hh, ag_r⟩
