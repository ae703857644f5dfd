/-! PURE, 42: members and a number in the text, on both sides -/
abbrev bA (e : Nat) : Nat → Nat → Prop := fun c i => c = 116 ∧ i = 2 ∨ 118 ≤ c ∧ c < 122 ∧ i = e
abbrev bM (e : Nat) : Nat → Nat → Prop := fun c i => c = 124 ∧ i = 53 ∨ 149 ≤ c ∧ c < 154 ∧ i = e
theorem f_t {P : Prop} (h : false = true) : P := nomatch h
theorem neg1 {f : Nat → Nat} {t a e : Nat} {σ : Mem} (h : Xs f t a e σ) (ha : a < t) : ¬ nI (f a) = -1 := nI_m1 (by have := (h.2.2.2.2.2.2 a ha).1; omega)
def mb2 (f : Nat → Nat) (t : Nat) (R : Nat × Int32) : Bool × Nat × Int32 := if hit f t R.1 58 58 then (true, R.1 + 1, R.2) else (false, R.1, 0)
def mbS (f : Nat → Nat) (t a : Nat) : Bool × Nat × Int32 := if hit f t a 48 56 then (if hit f t (a + 1) (f a + 1) 57 then mb2 f t (memS f t 9 (f a - 48) (a + 1) ((1 : Int32) <<< (nI (f a - 48) &&& 31))) else (false, a + 1, 0)) else (false, a, 0)
theorem xmem {f : Nat → Nat} {t a e : Nat} {σ : Mem} (he : e < 20) (h : Xs f t a e σ) : ∃ σ', fX2_parseMembers σ = some (b01 (mbS f t a).1, σ') ∧ Xs f t (mbS f t a).2.1 e σ' ∧ ((mbS f t a).1 = true → σ' 119 e = (mbS f t a).2.2) ∧ Ag (fun c i => c = 116 ∧ i = 2 ∨ c = 119 ∧ i = e) σ σ' := by
  unfold fX2_parseMembers mbS
  by_cases c : hit f t a 48 56
  · have c2 := c.2.1
    have c3 := c.2.2
    have hf := (h.2.2.2.2.2.2 a c.1).1
    have h1 := Xs_s h c.1
    rw [show fX2_take σ 48 56 = _ from xtake_y (lo := 48) (hi := 56) h (by omega) (by omega) c, bd_some, if_neg (neg1 h c.1), nI_s, if_pos c]
    by_cases d : hit f t (a + 1) (f a + 1) 57
    · have d1 := d.1
      have d2 := d.2.1
      have d3 := d.2.2
      have ch : hit f t (a + 1) (49 + (f a - 48)) 57 := ⟨d.1, by omega, d.2.2⟩
      have h2 := Xs_s h1 d.1
      obtain ⟨σ', b, e1, e2, e3, e4⟩ := xmem_loop he (58 - (f (a + 1) + 1)) (f (a + 1) + 1) 8 (f (a + 1) - 48) (a + 2) (((1 : Int32) <<< (nI (f a - 48) &&& 31)) ||| ((1 : Int32) <<< (nI (f (a + 1) - 48) &&& 31))) (by omega) (by omega) (by omega) (by omega) FU (FU_lt (by omega)) _ h2
      rw [show fX2_take (mst σ 116 2 (nI (a + 1))) (nI (f a + 1)) 57 = _ from xtake_y (hi := 57) h1 (by omega) (by omega) d, bd_some, if_neg (neg1 h1 d.1), if_pos d, memS_y _ ch]
      rw [show nI (f a) - (48 : Int32) = nI (f a - 48) from nI_sub (b := 48) (by omega), show nI (f (a + 1)) - (48 : Int32) = nI (f (a + 1) - 48) from nI_sub (b := 48) (by omega), nI_s, li_e, e1]
      have a2 : Ag (fun c i => c = 116 ∧ i = 2 ∨ c = 119 ∧ i = e) σ σ' := ag_2 (ag_2 (ag_mst (W := fun c i => c = 116 ∧ i = 2) σ _ ⟨rfl, rfl⟩) (fun _ _ h => h) (ag_mst (W := fun c i => c = 116 ∧ i = 2) _ _ ⟨rfl, rfl⟩) (fun _ _ h => h)) (fun _ _ h => Or.inl h) e4 (fun _ _ h => h)
      unfold mb2
      by_cases g : hit f t (memS f t 8 (f (a + 1) - 48) (a + 1 + 1) (((1 : Int32) <<< (nI (f a - 48) &&& 31)) ||| ((1 : Int32) <<< (nI (f (a + 1) - 48) &&& 31)))).1 58 58
      · obtain ⟨g1, g2, g3⟩ := e2 g
        rw [if_pos g, g1]
        exact ⟨σ', rfl, g2, fun _ => g3, a2⟩
      · obtain ⟨g1, g2⟩ := e3 g
        rw [if_neg g, g1]
        exact ⟨σ', rfl, g2, fun hh => f_t hh, a2⟩
    · rw [show fX2_take (mst σ 116 2 (nI (a + 1))) (nI (f a + 1)) 57 = _ from xtake_n (hi := 57) h1 (by omega) (by omega) d, bd_some, if_pos rfl, if_neg d]
      exact ⟨_, rfl, h1, fun hh => f_t hh, ag_mst σ _ (Or.inl ⟨rfl, rfl⟩)⟩
  · rw [show fX2_take σ 48 56 = _ from xtake_n (lo := 48) (hi := 56) h (by omega) (by omega) c, bd_some, if_pos rfl, if_neg c]
    exact ⟨σ, rfl, h, fun hh => f_t hh, ag_r⟩
theorem mmem {f : Nat → Nat} {t a e : Nat} {τ : Mem} (he : e < 20) (h : Ms f t a e τ) (K : Mem → Option (Int32 × Mem)) : ∃ τ', (bd (fX10_takesMembers τ) fun v25 σ25 => if v25 = 0 then (fX10_takesEntry_L143 σ25) else (bd (fX10_skips σ25 (58 : Int32)) fun v26 σ26 => if v26 = 0 then (fX10_takesEntry_L143 σ26) else K σ26)) = (if (mbS f t a).1 = true then K τ' else some (0, τ')) ∧ Ms f t (mbS f t a).2.1 e τ' ∧ ((mbS f t a).1 = true → τ' 151 e = (mbS f t a).2.2) ∧ Ag (fun c i => c = 124 ∧ i = 53 ∨ c = 151 ∧ i = e) τ τ' := by
  unfold fX10_takesMembers mbS fX10_takesEntry_L143
  by_cases c : hit f t a 48 56
  · have c2 := c.2.1
    have c3 := c.2.2
    have hf := (h.2.2.2.2.2.2 a c.1).1
    have h1 := Ms_s h c.1
    rw [show fX10_isNext τ 48 56 = _ from mnext_y (lo := 48) (hi := 56) h (by omega) (by omega) c, bd_some, if_neg (by decide), (mcur h c.1 _).1, (mcur (α := Int32) h c.1 none).2, show nI (f a) - (48 : Int32) = nI (f a - 48) from nI_sub (b := 48) (by omega), li_e, li_e, h.2.2.2.2.1, nI_s, lt_e2, if_pos c, show (49 : Int32) + nI (f a - 48) = nI (f a + 1) from (nI_add 49 (f a - 48)).trans (congrArg nI (by omega))]
    by_cases d : hit f t (a + 1) (f a + 1) 57
    · have d1 := d.1
      have d2 := d.2.1
      have d3 := d.2.2
      obtain ⟨τ', e1, e2, e3, e4⟩ := mmem_loop he 9 (f a - 48) (a + 1) ((1 : Int32) <<< (nI (f a - 48) &&& 31)) (by omega) (by omega) FU (FU_lt (by omega)) _ h1
      rw [show fX10_isNext (mst τ 124 53 (nI (a + 1))) (nI (f a + 1)) 57 = _ from mnext_y (hi := 57) h1 (by omega) (by omega) d, bd_some, if_neg (by decide), if_pos d, e1, bd_some, if_neg (by decide)]
      have a2 : Ag (fun c i => c = 124 ∧ i = 53 ∨ c = 151 ∧ i = e) τ τ' := ag_2 (ag_mst (W := fun c i => c = 124 ∧ i = 53) τ _ ⟨rfl, rfl⟩) (fun _ _ h => Or.inl h) e4 (fun _ _ h => h)
      unfold mb2
      generalize memS f t 9 (f a - 48) (a + 1) ((1 : Int32) <<< (nI (f a - 48) &&& 31)) = R at *
      by_cases g : hit f t R.1 58 58
      · rw [show fX10_skips τ' 58 = _ from mskip_y (lo := 58) e2 (by omega) g, bd_some, if_neg (by decide), if_pos g]
        exact ⟨_, (if_pos rfl).symm, Ms_s e2 g.1, fun _ => by rw [mst_ne _ _ _ (by decide)]; exact e3, ag_2 a2 (fun _ _ h => h) (ag_mst (W := fun c i => c = 124 ∧ i = 53) _ _ ⟨rfl, rfl⟩) (fun _ _ h => Or.inl h)⟩
      · rw [show fX10_skips τ' 58 = _ from mskip_n (lo := 58) e2 (by omega) g, bd_some, if_pos rfl, if_neg g]
        exact ⟨τ', (if_neg (fun hh => f_t hh)).symm, e2, fun hh => f_t hh, a2⟩
    · rw [show fX10_isNext (mst τ 124 53 (nI (a + 1))) (nI (f a + 1)) 57 = _ from mnext_n (hi := 57) h1 (by omega) (by omega) d, bd_some, if_pos rfl, bd_some, if_pos rfl, if_neg d]
      exact ⟨_, (if_neg (fun hh => f_t hh)).symm, h1, fun hh => f_t hh, ag_mst τ _ (Or.inl ⟨rfl, rfl⟩)⟩
  · rw [show fX10_isNext τ 48 56 = _ from mnext_n (lo := 48) (hi := 56) h (by omega) (by omega) c, bd_some, if_pos rfl, bd_some, if_pos rfl, if_neg c]
    exact ⟨τ, (if_neg (fun hh => f_t hh)).symm, h, fun hh => f_t hh, ag_r⟩
-- a number
def nm3 (f : Nat → Nat) (t : Nat) (s : Bool) (a x : Nat) : Bool × Nat × Int32 := if hit f t a 42 42 then (true, a + 1, if s = true then -nI x else nI x) else (false, a, 0)
def hiN (d : Nat) : Nat := if d ≤ 4 then 57 else 98 - 10 * d
def nm2 (f : Nat → Nat) (t : Nat) (s : Bool) (a : Nat) : Bool × Nat × Int32 := if hit f t a 48 57 then (if hit f t (a + 1) 48 (hiN (f a - 48)) then nm3 f t s (a + 2) (10 * (f a - 48) + (f (a + 1) - 48)) else nm3 f t s (a + 1) (f a - 48)) else (false, a, 0)
def nmS (f : Nat → Nat) (t a : Nat) : Bool × Nat × Int32 := if hit f t a 45 45 then nm2 f t true (a + 1) else nm2 f t false a
theorem hi_eq : ∀ d : Nat, d < 10 → (48 : Int32) + (if ((50 : Int32) - ((10 : Int32) * nI d)) < (9 : Int32) then ((50 : Int32) - ((10 : Int32) * nI d)) else (9 : Int32)) = nI (hiN d) := by decide
abbrev wN (e : Nat) : Nat → Nat → Prop := fun c i => c = 116 ∧ i = 2 ∨ c = 120 ∧ i = e
theorem xnm3 {f : Nat → Nat} {t a e x : Nat} {σ : Mem} (s : Bool) (he : e < 20) (h : Xs f t a e σ) : ∃ σ', fX2_parseNumber_L79 σ (b01 s) (nI x) = some (b01 (nm3 f t s a x).1, σ') ∧ Xs f t (nm3 f t s a x).2.1 e σ' ∧ ((nm3 f t s a x).1 = true → σ' 120 e = (nm3 f t s a x).2.2) ∧ Ag (wN e) σ σ' := by
  have core : ∀ y : Int32, y = (if s = true then -nI x else nI x) → ∃ σ', fX2_parseNumber_L97 σ (nI e) y = some (b01 (nm3 f t s a x).1, σ') ∧ Xs f t (nm3 f t s a x).2.1 e σ' ∧ ((nm3 f t s a x).1 = true → σ' 120 e = (nm3 f t s a x).2.2) ∧ Ag (wN e) σ σ' := by
    intro y hy
    have h1 : Xs f t a e (mst σ 120 e y) := Xs_ag h (ag_mst (W := fun c i => c = 120 ∧ i = e) σ y ⟨rfl, rfl⟩) (fun _ _ _ => by omega)
    unfold fX2_parseNumber_L97 nm3
    rw [ck_i he (by omega), cl_i (by omega), lt_e2]
    by_cases c : hit f t a 42 42
    · rw [show fX2_take (mst σ 120 e y) 42 42 = _ from xtake_y (lo := 42) (hi := 42) h1 (by omega) (by omega) c, bd_some, if_neg (neg1 h c.1), if_pos c]
      exact ⟨_, rfl, Xs_s h1 c.1, fun _ => by rw [mst_ne _ _ _ (by decide), mst_at, upd_at]; exact hy, ag_2 (ag_mst (W := fun c i => c = 120 ∧ i = e) σ y ⟨rfl, rfl⟩) (fun _ _ h => Or.inr h) (ag_mst (W := fun c i => c = 116 ∧ i = 2) _ _ ⟨rfl, rfl⟩) (fun _ _ h => Or.inl h)⟩
    · rw [show fX2_take (mst σ 120 e y) 42 42 = _ from xtake_n (lo := 42) (hi := 42) h1 (by omega) (by omega) c, bd_some, if_pos rfl, if_neg c]
      exact ⟨_, rfl, h1, fun hh => f_t hh, ag_mst σ y (Or.inr ⟨rfl, rfl⟩)⟩
  unfold fX2_parseNumber_L79
  rw [h.2.2.2.2.2.1]
  cases s with
  | false => rw [if_pos (show b01 false = 0 from rfl)]; exact core _ (if_neg (by decide)).symm
  | true => rw [if_neg (show ¬ b01 true = 0 by decide)]; exact core _ (if_pos rfl).symm
theorem xnm2 {f : Nat → Nat} {t a e : Nat} {σ : Mem} (s : Bool) (he : e < 20) (h : Xs f t a e σ) : ∃ σ', fX2_parseNumber_L17 σ (b01 s) = some (b01 (nm2 f t s a).1, σ') ∧ Xs f t (nm2 f t s a).2.1 e σ' ∧ ((nm2 f t s a).1 = true → σ' 120 e = (nm2 f t s a).2.2) ∧ Ag (wN e) σ σ' := by
  unfold fX2_parseNumber_L17 nm2
  by_cases c : hit f t a 48 57
  · have c2 := c.2.1
    have c3 := c.2.2
    have h1 := Xs_s h c.1
    have hh9 : hiN (f a - 48) ≤ 1000 := by unfold hiN; split <;> omega
    rw [show fX2_take σ 48 57 = _ from xtake_y (lo := 48) (hi := 57) h (by omega) (by omega) c, bd_some, if_neg (neg1 h c.1), if_pos c, show nI (f a) - (48 : Int32) = nI (f a - 48) from nI_sub (b := 48) (by omega), hi_eq _ (by omega)]
    by_cases d : hit f t (a + 1) 48 (hiN (f a - 48))
    · have d2 := d.2.1
      have d3 := d.2.2
      have h2 := Xs_s h1 d.1
      rw [show fX2_take (mst σ 116 2 (nI (a + 1))) 48 (nI (hiN (f a - 48))) = _ from xtake_y (lo := 48) h1 (by omega) hh9 d, bd_some, if_neg (neg1 h1 d.1), if_pos d, show ((10 : Int32) * nI (f a - 48) + nI (f (a + 1))) - (48 : Int32) = nI (10 * (f a - 48) + (f (a + 1) - 48)) from by
        rw [show (10 : Int32) * nI (f a - 48) = nI (10 * (f a - 48)) from nI_mul 10 _, nI_add]
        exact (nI_sub (b := 48) (by omega)).trans (congrArg nI (by omega)), li_e]
      obtain ⟨σ', e1, e2, e3, e4⟩ := xnm3 (x := 10 * (f a - 48) + (f (a + 1) - 48)) s he h2
      exact ⟨σ', e1, e2, e3, ag_2 (ag_2 (ag_mst (W := fun c i => c = 116 ∧ i = 2) σ _ ⟨rfl, rfl⟩) (fun _ _ h => h) (ag_mst (W := fun c i => c = 116 ∧ i = 2) _ _ ⟨rfl, rfl⟩) (fun _ _ h => h)) (fun _ _ h => Or.inl h) e4 (fun _ _ h => h)⟩
    · rw [show fX2_take (mst σ 116 2 (nI (a + 1))) 48 (nI (hiN (f a - 48))) = _ from xtake_n (lo := 48) h1 (by omega) hh9 d, bd_some, if_pos rfl, if_neg d]
      obtain ⟨σ', e1, e2, e3, e4⟩ := xnm3 (x := f a - 48) s he h1
      exact ⟨σ', e1, e2, e3, ag_2 (ag_mst (W := fun c i => c = 116 ∧ i = 2) σ _ ⟨rfl, rfl⟩) (fun _ _ h => Or.inl h) e4 (fun _ _ h => h)⟩
  · rw [show fX2_take σ 48 57 = _ from xtake_n (lo := 48) (hi := 57) h (by omega) (by omega) c, bd_some, if_pos rfl, if_neg c]
    exact ⟨σ, rfl, h, fun hh => f_t hh, ag_r⟩
theorem xnm {f : Nat → Nat} {t a e : Nat} {σ : Mem} (he : e < 20) (h : Xs f t a e σ) : ∃ σ', fX2_parseNumber σ = some (b01 (nmS f t a).1, σ') ∧ Xs f t (nmS f t a).2.1 e σ' ∧ ((nmS f t a).1 = true → σ' 120 e = (nmS f t a).2.2) ∧ Ag (wN e) σ σ' := by
  unfold fX2_parseNumber nmS
  by_cases c : hit f t a 45 45
  · rw [show fX2_take σ 45 45 = _ from xtake_y (lo := 45) (hi := 45) h (by omega) (by omega) c, bd_some, if_neg (neg1 h c.1), if_pos c]
    obtain ⟨σ', e1, e2, e3, e4⟩ := xnm2 true he (Xs_s h c.1)
    exact ⟨σ', e1, e2, e3, ag_2 (ag_mst (W := fun c i => c = 116 ∧ i = 2) σ _ ⟨rfl, rfl⟩) (fun _ _ h => Or.inl h) e4 (fun _ _ h => h)⟩
  · rw [show fX2_take σ 45 45 = _ from xtake_n (lo := 45) (hi := 45) h (by omega) (by omega) c, bd_some, if_pos rfl, if_neg c]
    exact xnm2 false he h
