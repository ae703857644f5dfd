/-! PURE, 44: an entry of the text, on both sides -/
/-- a whole entry: is it one, where the reader stands, and what it says: size (0: a constraint), kind, members, number, weight -/
def en1 (f : Nat → Nat) (t a : Nat) (z kd : Nat) (m nu : Int32) : Bool × Nat × Nat × Nat × Int32 × Int32 × Nat :=
  if hit f t a 49 57 then (if hit f t (a + 1) 59 59 then (true, a + 2, z, kd, m, nu, f a - 48) else (false, a + 1, 0, 0, 0, 0, 0)) else (false, a, 0, 0, 0, 0, 0)
def enS (f : Nat → Nat) (t a : Nat) : Bool × Nat × Nat × Nat × Int32 × Int32 × Nat :=
  if hit f t a 118 118 then (if hit f t (a + 1) 50 56 then (if hit f t (a + 2) 59 59 then (true, a + 3, f (a + 1) - 48, 0, 0, 0, 0) else (false, a + 2, 0, 0, 0, 0, 0)) else (false, a + 1, 0, 0, 0, 0, 0))
  else if hit f t a 97 102 then (if (mbS f t (a + 1)).1 = true then (if (nmS f t (mbS f t (a + 1)).2.1).1 = true then en1 f t (nmS f t (mbS f t (a + 1)).2.1).2.1 0 (f a - 97) (mbS f t (a + 1)).2.2 (nmS f t (mbS f t (a + 1)).2.1).2.2 else (false, (nmS f t (mbS f t (a + 1)).2.1).2.1, 0, 0, 0, 0, 0)) else (false, (mbS f t (a + 1)).2.1, 0, 0, 0, 0, 0))
  else (false, a, 0, 0, 0, 0, 0)
/-- the entry e as the class keeps it -/
def xE (e : Nat) (σ : Mem) (r : Bool × Nat × Nat × Nat × Int32 × Int32 × Nat) : Prop := (2 ≤ r.2.2.1 ∧ r.2.2.1 ≤ 8 ∧ σ 118 e = -1 ∧ σ 120 e = nI r.2.2.1) ∨ (r.2.2.1 = 0 ∧ r.2.2.2.1 ≤ 5 ∧ 1 ≤ r.2.2.2.2.2.2 ∧ r.2.2.2.2.2.2 ≤ 9 ∧ nuOk r.2.2.2.2.2.1 ∧ σ 118 e = nI r.2.2.2.1 ∧ σ 119 e = r.2.2.2.2.1 ∧ σ 120 e = r.2.2.2.2.2.1 ∧ σ 121 e = nI r.2.2.2.2.2.2)
/-- the entry e as the reference keeps it -/
def mE (e : Nat) (τ : Mem) (r : Bool × Nat × Nat × Nat × Int32 × Int32 × Nat) : Prop := τ 149 e = nI r.2.2.1 ∧ (r.2.2.1 = 0 → τ 150 e = nI r.2.2.2.1 ∧ τ 151 e = r.2.2.2.2.1 ∧ τ 152 e = r.2.2.2.2.2.1 ∧ τ 153 e = nI r.2.2.2.2.2.2)
theorem nm3_ok {f : Nat → Nat} {t a x : Nat} {s : Bool} (hx : x ≤ 50) (h : (nm3 f t s a x).1 = true) : nuOk (nm3 f t s a x).2.2 ∧ a + 1 ≤ (nm3 f t s a x).2.1 := by
  unfold nm3 at *
  by_cases c : hit f t a 42 42
  · rw [if_pos c]
    refine ⟨⟨x, hx, ?_⟩, Nat.le_refl _⟩
    cases s with
    | false => exact Or.inl rfl
    | true => exact Or.inr rfl
  · rw [if_neg c] at h; exact f_t h
theorem nm2_ok {f : Nat → Nat} {t a : Nat} {s : Bool} (h : (nm2 f t s a).1 = true) : nuOk (nm2 f t s a).2.2 ∧ a + 1 ≤ (nm2 f t s a).2.1 := by
  unfold nm2 at *
  by_cases c : hit f t a 48 57
  · have c2 := c.2.1
    have c3 := c.2.2
    rw [if_pos c] at h ⊢
    by_cases d : hit f t (a + 1) 48 (hiN (f a - 48))
    · have d2 := d.2.1
      have d3 := d.2.2
      rw [if_pos d] at h ⊢
      have hb : 10 * (f a - 48) + (f (a + 1) - 48) ≤ 50 := by
        unfold hiN at d3
        by_cases q : f a - 48 ≤ 4
        · rw [if_pos q] at d3; omega
        · rw [if_neg q] at d3; omega
      have := nm3_ok hb h
      exact ⟨this.1, by omega⟩
    · rw [if_neg d] at h ⊢
      have := nm3_ok (x := f a - 48) (by omega) h
      exact ⟨this.1, by omega⟩
  · rw [if_neg c] at h; exact f_t h
theorem nmS_ok {f : Nat → Nat} {t a : Nat} (h : (nmS f t a).1 = true) : nuOk (nmS f t a).2.2 ∧ a + 1 ≤ (nmS f t a).2.1 := by
  unfold nmS at *
  by_cases c : hit f t a 45 45
  · rw [if_pos c] at h ⊢
    have := nm2_ok h
    exact ⟨this.1, by omega⟩
  · rw [if_neg c] at h ⊢
    exact nm2_ok h
theorem mbS_ok {f : Nat → Nat} {t a : Nat} (h : (mbS f t a).1 = true) : a + 1 ≤ (mbS f t a).2.1 := by
  unfold mbS at *
  by_cases c : hit f t a 48 56
  · rw [if_pos c] at h ⊢
    by_cases d : hit f t (a + 1) (f a + 1) 57
    · rw [if_pos d] at h ⊢
      have l := memS_le (f := f) (t := t) 9 (f a - 48) (a + 1) ((1 : Int32) <<< (nI (f a - 48) &&& 31)) c.1
      unfold mb2 at *
      by_cases g : hit f t (memS f t 9 (f a - 48) (a + 1) ((1 : Int32) <<< (nI (f a - 48) &&& 31))).1 58 58
      · rw [if_pos g]; show a + 1 ≤ _ + 1; omega
      · rw [if_neg g] at h; exact f_t h
    · rw [if_neg d] at h; exact f_t h
  · rw [if_neg c] at h; exact f_t h
/-- a sign and a half: the end of an entry in the class: weight -/
theorem xwt {f : Nat → Nat} {t a e : Nat} {σ : Mem} (he : e < 20) (h : Xs f t a e σ) : ∃ σ', fX2_parseWeight σ = some (if hit f t a 49 57 then 1 else 0, σ') ∧ Xs f t (if hit f t a 49 57 then a + 1 else a) e σ' ∧ (hit f t a 49 57 → σ' 121 e = nI (f a - 48)) ∧ Ag (fun c i => c = 116 ∧ i = 2 ∨ c = 121 ∧ i = e) σ σ' := by
  unfold fX2_parseWeight
  by_cases c : hit f t a 49 57
  · have c2 := c.2.1
    have h1 := Xs_s h c.1
    have w1 : Ag (fun c i => c = 116 ∧ i = 2) σ (mst σ 116 2 (nI (a + 1))) := ag_mst (W := fun c i => c = 116 ∧ i = 2) σ _ ⟨rfl, rfl⟩
    rw [show fX2_take σ 49 57 = _ from xtake_y (lo := 49) (hi := 57) h (by omega) (by omega) c, bd_some, h1.2.2.2.2.2.1, ck_i he (by omega), cl_i (by omega), lt_e2, if_neg (neg1 h c.1), if_pos c, if_pos c, show nI (f a) - (48 : Int32) = nI (f a - 48) from nI_sub (b := 48) (by omega)]
    exact ⟨_, rfl, Xs_ag h1 (ag_mst (W := fun c i => c = 121 ∧ i = e) _ _ ⟨rfl, rfl⟩) (fun _ _ _ => by omega), fun _ => by rw [mst_at, upd_at], ag_2 w1 (fun _ _ h => Or.inl h) (ag_mst (W := fun c i => c = 121 ∧ i = e) _ _ ⟨rfl, rfl⟩) (fun _ _ h => Or.inr h)⟩
  · rw [show fX2_take σ 49 57 = _ from xtake_n (lo := 49) (hi := 57) h (by omega) (by omega) c, bd_some, h.2.2.2.2.2.1, ck_i he (by omega), cl_i (by omega), lt_e2, if_pos rfl, if_neg c, if_neg c]
    exact ⟨_, rfl, Xs_ag h (ag_mst (W := fun c i => c = 121 ∧ i = e) _ _ ⟨rfl, rfl⟩) (fun _ _ _ => by omega), fun q => absurd q c, ag_mst σ _ (Or.inr ⟨rfl, rfl⟩)⟩
theorem xkd {f : Nat → Nat} {t a e : Nat} {σ : Mem} (he : e < 20) (h : Xs f t a e σ) : ∃ σ', fX2_parseKind σ = some (if hit f t a 97 102 then 1 else 0, σ') ∧ Xs f t (if hit f t a 97 102 then a + 1 else a) e σ' ∧ (hit f t a 97 102 → σ' 118 e = nI (f a - 97)) ∧ Ag (fun c i => c = 116 ∧ i = 2 ∨ c = 118 ∧ i = e) σ σ' := by
  unfold fX2_parseKind
  by_cases c : hit f t a 97 102
  · have c2 := c.2.1
    have h1 := Xs_s h c.1
    have w1 : Ag (fun c i => c = 116 ∧ i = 2) σ (mst σ 116 2 (nI (a + 1))) := ag_mst (W := fun c i => c = 116 ∧ i = 2) σ _ ⟨rfl, rfl⟩
    rw [show fX2_take σ 97 102 = _ from xtake_y (lo := 97) (hi := 102) h (by omega) (by omega) c, bd_some, h1.2.2.2.2.2.1, ck_i he (by omega), cl_i (by omega), lt_e2, if_neg (neg1 h c.1), if_pos c, if_pos c, show nI (f a) - (97 : Int32) = nI (f a - 97) from nI_sub (b := 97) (by omega)]
    exact ⟨_, rfl, Xs_ag h1 (ag_mst (W := fun c i => c = 118 ∧ i = e) _ _ ⟨rfl, rfl⟩) (fun _ _ _ => by omega), fun _ => by rw [mst_at, upd_at], ag_2 w1 (fun _ _ h => Or.inl h) (ag_mst (W := fun c i => c = 118 ∧ i = e) _ _ ⟨rfl, rfl⟩) (fun _ _ h => Or.inr h)⟩
  · rw [show fX2_take σ 97 102 = _ from xtake_n (lo := 97) (hi := 102) h (by omega) (by omega) c, bd_some, h.2.2.2.2.2.1, ck_i he (by omega), cl_i (by omega), lt_e2, if_pos rfl, if_neg c, if_neg c]
    exact ⟨_, rfl, Xs_ag h (ag_mst (W := fun c i => c = 118 ∧ i = e) _ _ ⟨rfl, rfl⟩) (fun _ _ _ => by omega), fun q => absurd q c, ag_mst σ _ (Or.inr ⟨rfl, rfl⟩)⟩
