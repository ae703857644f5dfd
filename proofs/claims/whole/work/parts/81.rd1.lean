/-! PURE, 41: reading signs -/
abbrev hit (f : Nat → Nat) (t a lo hi : Nat) : Prop := a < t ∧ lo ≤ f a ∧ f a ≤ hi
/-- the class's text, read up to a -/
def Xs (f : Nat → Nat) (t a e : Nat) (σ : Mem) : Prop := t ≤ 60 ∧ a ≤ t ∧ e ≤ 20 ∧ σ 116 1 = nI t ∧ σ 116 2 = nI a ∧ σ 116 7 = nI e ∧ ∀ j, j < t → f j ≤ 126 ∧ σ 117 j = nI (f j)
/-- the reference's text, read up to a -/
def Ms (f : Nat → Nat) (t a e : Nat) (τ : Mem) : Prop := t ≤ 60 ∧ a ≤ t ∧ e ≤ 20 ∧ τ 124 52 = nI t ∧ τ 124 53 = nI a ∧ τ 124 54 = nI e ∧ ∀ j, j < t → f j ≤ 126 ∧ τ 148 j = nI (f j)
theorem Xs_ag {f : Nat → Nat} {t a e : Nat} {σ σ' : Mem} {W : Nat → Nat → Prop} (h : Xs f t a e σ) (w : Ag W σ σ') (s : ∀ c i, c = 116 ∧ i = 1 ∨ c = 116 ∧ i = 2 ∨ c = 116 ∧ i = 7 ∨ c = 117 → ¬ W c i) : Xs f t a e σ' := by
  obtain ⟨h1, h2, h3, h4, h5, h6, h7⟩ := h
  exact ⟨h1, h2, h3, (w _ _ (s _ _ (by omega))).trans h4, (w _ _ (s _ _ (by omega))).trans h5, (w _ _ (s _ _ (by omega))).trans h6, fun j hj => ⟨(h7 j hj).1, (w _ _ (s _ _ (by omega))).trans (h7 j hj).2⟩⟩
theorem Ms_ag {f : Nat → Nat} {t a e : Nat} {τ τ' : Mem} {W : Nat → Nat → Prop} (h : Ms f t a e τ) (w : Ag W τ τ') (s : ∀ c i, c = 124 ∧ i = 52 ∨ c = 124 ∧ i = 53 ∨ c = 124 ∧ i = 54 ∨ c = 148 → ¬ W c i) : Ms f t a e τ' := by
  obtain ⟨h1, h2, h3, h4, h5, h6, h7⟩ := h
  exact ⟨h1, h2, h3, (w _ _ (s _ _ (by omega))).trans h4, (w _ _ (s _ _ (by omega))).trans h5, (w _ _ (s _ _ (by omega))).trans h6, fun j hj => ⟨(h7 j hj).1, (w _ _ (s _ _ (by omega))).trans (h7 j hj).2⟩⟩
theorem Xs_s {f : Nat → Nat} {t a e : Nat} {σ : Mem} (h : Xs f t a e σ) (ha : a < t) : Xs f t (a + 1) e (mst σ 116 2 (nI (a + 1))) := by
  obtain ⟨h1, h2, h3, h4, h5, h6, h7⟩ := h
  refine ⟨h1, ha, h3, ?_, by rw [mst_at, upd_at], ?_, fun j hj => ⟨(h7 j hj).1, by rw [mst_ne _ _ _ (by decide)]; exact (h7 j hj).2⟩⟩
  · rw [mst_at, upd_ne _ _ (by decide)]; exact h4
  · rw [mst_at, upd_ne _ _ (by decide)]; exact h6
theorem Ms_s {f : Nat → Nat} {t a e : Nat} {τ : Mem} (h : Ms f t a e τ) (ha : a < t) : Ms f t (a + 1) e (mst τ 124 53 (nI (a + 1))) := by
  obtain ⟨h1, h2, h3, h4, h5, h6, h7⟩ := h
  refine ⟨h1, ha, h3, ?_, by rw [mst_at, upd_at], ?_, fun j hj => ⟨(h7 j hj).1, by rw [mst_ne _ _ _ (by decide)]; exact (h7 j hj).2⟩⟩
  · rw [mst_at, upd_ne _ _ (by decide)]; exact h4
  · rw [mst_at, upd_ne _ _ (by decide)]; exact h6
theorem xtake_y {f : Nat → Nat} {t a e lo hi : Nat} {σ : Mem} (h : Xs f t a e σ) (hl : lo ≤ 1000) (hh : hi ≤ 1000) (c : hit f t a lo hi) : fX2_take σ (nI lo) (nI hi) = some (nI (f a), mst σ 116 2 (nI (a + 1))) := by
  obtain ⟨h1, h2, h3, h4, h5, h6, h7⟩ := h
  obtain ⟨c1, c2, c3⟩ := c
  have hf := (h7 a c1).1
  unfold fX2_take
  rw [h4, h5, if_neg (fun hh => absurd ((le_i (by omega) (by omega)).1 hh) (by omega)), ck_i (by omega) (by omega), cl_i (by omega), (h7 a c1).2, if_neg (fun hh => absurd ((lt_i (by omega) (by omega)).1 hh) (by omega)), ck_i (by omega) (by omega), if_pos ((le_i (by omega) (by omega)).2 c3), nI_s, lt_e2]
  rw [show (mst σ 116 2 (nI (a + 1))) 116 2 = nI (a + 1) by rw [mst_at, upd_at], nI_p, ck_i (by omega) (by omega), cl_i (by omega), mst_ne _ _ _ (by decide), (h7 a c1).2]
theorem xtake_n {f : Nat → Nat} {t a e lo hi : Nat} {σ : Mem} (h : Xs f t a e σ) (hl : lo ≤ 1000) (hh : hi ≤ 1000) (c : ¬ hit f t a lo hi) : fX2_take σ (nI lo) (nI hi) = some (-1, σ) := by
  obtain ⟨h1, h2, h3, h4, h5, h6, h7⟩ := h
  unfold fX2_take fX2_take_L37
  rw [h4, h5]
  by_cases c1 : a < t
  · have hf := (h7 a c1).1
    rw [if_neg (fun hh => absurd ((le_i (by omega) (by omega)).1 hh) (by omega)), ck_i (by omega) (by omega), cl_i (by omega), (h7 a c1).2]
    by_cases c2 : lo ≤ f a
    · have c3 : ¬ f a ≤ hi := fun c3 => c ⟨c1, c2, c3⟩
      rw [if_neg (fun hh => absurd ((lt_i (by omega) (by omega)).1 hh) (by omega)), ck_i (by omega) (by omega), if_neg (fun hh => c3 ((le_i (by omega) (by omega)).1 hh))]
    · rw [if_pos ((lt_i (by omega) (by omega)).2 (by omega))]
  · rw [if_pos ((le_i (by omega) (by omega)).2 (by omega))]
theorem mbet_y (τ : Mem) {x lo hi : Nat} (hx : x ≤ 1000) (hl : lo ≤ 1000) (hh : hi ≤ 1000) (c : lo ≤ x ∧ x ≤ hi) : fX10_isBetween τ (nI x) (nI lo) (nI hi) = some (1, τ) := mrange_ok τ ((le_i (by omega) (by omega)).2 c.1) ((le_i (by omega) (by omega)).2 c.2)
theorem mbet_n (τ : Mem) {x lo hi : Nat} (hx : x ≤ 1000) (hl : lo ≤ 1000) (hh : hi ≤ 1000) (c : ¬ (lo ≤ x ∧ x ≤ hi)) : fX10_isBetween τ (nI x) (nI lo) (nI hi) = some (0, τ) := mrange_no τ (fun q => c ⟨(le_i (by omega) (by omega)).1 q.1, (le_i (by omega) (by omega)).1 q.2⟩)
theorem mnext_y {f : Nat → Nat} {t a e lo hi : Nat} {τ : Mem} (h : Ms f t a e τ) (hl : lo ≤ 1000) (hh : hi ≤ 1000) (c : hit f t a lo hi) : fX10_isNext τ (nI lo) (nI hi) = some (1, τ) := by
  obtain ⟨h1, h2, h3, h4, h5, h6, h7⟩ := h
  obtain ⟨c1, c2, c3⟩ := c
  have hf := (h7 a c1).1
  unfold fX10_isNext
  rw [h4, h5, if_neg (fun hh => absurd ((le_i (by omega) (by omega)).1 hh) (by omega)), ck_i (by omega) (by omega), cl_i (by omega), (h7 a c1).2, mbet_y τ (by omega) hl hh ⟨c2, c3⟩, bd_some, if_neg (by decide)]
theorem mnext_n {f : Nat → Nat} {t a e lo hi : Nat} {τ : Mem} (h : Ms f t a e τ) (hl : lo ≤ 1000) (hh : hi ≤ 1000) (c : ¬ hit f t a lo hi) : fX10_isNext τ (nI lo) (nI hi) = some (0, τ) := by
  obtain ⟨h1, h2, h3, h4, h5, h6, h7⟩ := h
  unfold fX10_isNext fX10_isNext_L32
  rw [h4, h5]
  by_cases c1 : a < t
  · have hf := (h7 a c1).1
    rw [if_neg (fun hh => absurd ((le_i (by omega) (by omega)).1 hh) (by omega)), ck_i (by omega) (by omega), cl_i (by omega), (h7 a c1).2, mbet_n τ (by omega) hl hh (fun q => c ⟨c1, q⟩), bd_some, if_pos rfl]
  · rw [if_pos ((le_i (by omega) (by omega)).2 (by omega))]
theorem mskip_y {f : Nat → Nat} {t a e lo : Nat} {τ : Mem} (h : Ms f t a e τ) (hl : lo ≤ 1000) (c : hit f t a lo lo) : fX10_skips τ (nI lo) = some (1, mst τ 124 53 (nI (a + 1))) := by
  unfold fX10_skips
  rw [mnext_y h hl hl c, bd_some, if_neg (by decide), h.2.2.2.2.1, nI_s, lt_e2]
theorem mskip_n {f : Nat → Nat} {t a e lo : Nat} {τ : Mem} (h : Ms f t a e τ) (hl : lo ≤ 1000) (c : ¬ hit f t a lo lo) : fX10_skips τ (nI lo) = some (0, τ) := by
  unfold fX10_skips
  rw [mnext_n h hl hl c, bd_some, if_pos rfl]
/-- the sign under the reader -/
theorem mcur {f : Nat → Nat} {t a e : Nat} {τ : Mem} {α : Type} (h : Ms f t a e τ) (ha : a < t) (x : Option α) : ck (τ 124 53) 60 x = x ∧ τ 148 (τ 124 53).toNatClampNeg = nI (f a) := by
  obtain ⟨h1, h2, h3, h4, h5, h6, h7⟩ := h
  rw [h5, cl_i (by omega)]
  exact ⟨ck_i (by omega) (by omega) x, (h7 a ha).2⟩
-- members
/-- members after the digit d: where the reader stands then, and the members -/
def memS (f : Nat → Nat) (t : Nat) : Nat → Nat → Nat → Int32 → Nat × Int32
  | 0, _, a, m => (a, m)
  | g + 1, d, a, m => if hit f t a (49 + d) 57 then memS f t g (f a - 48) (a + 1) (m ||| ((1 : Int32) <<< (nI (f a - 48) &&& 31))) else (a, m)
theorem memS_y {f : Nat → Nat} {t g d a : Nat} (m : Int32) (c : hit f t a (49 + d) 57) : memS f t (g + 1) d a m = memS f t g (f a - 48) (a + 1) (m ||| ((1 : Int32) <<< (nI (f a - 48) &&& 31))) := if_pos c
theorem memS_n {f : Nat → Nat} {t g d a : Nat} (m : Int32) (c : ¬ hit f t a (49 + d) 57) : memS f t g d a m = (a, m) := by
  cases g with
  | zero => rfl
  | succ g => exact if_neg c
theorem memS_le {f : Nat → Nat} {t : Nat} : ∀ (g d a : Nat) (m : Int32), a ≤ t → a ≤ (memS f t g d a m).1 ∧ (memS f t g d a m).1 ≤ t
  | 0, _, _, _, h => ⟨Nat.le_refl _, h⟩
  | g + 1, d, a, m, h => by
    by_cases c : hit f t a (49 + d) 57
    · rw [memS_y m c]
      have := memS_le (f := f) (t := t) g (f a - 48) (a + 1) (m ||| ((1 : Int32) <<< (nI (f a - 48) &&& 31))) c.1
      omega
    · rw [memS_n m c]; exact ⟨Nat.le_refl _, h⟩
theorem mmem_loop {f : Nat → Nat} {t e : Nat} (he : e < 20) : ∀ (g d a : Nat) (m : Int32), d ≤ 9 → 9 ≤ d + g → ∀ N, g < N → ∀ τ : Mem, Ms f t a e τ → ∃ τ', fX10_takesMembers_L55 N τ (nI d) m = some (1, τ') ∧ Ms f t (memS f t g d a m).1 e τ' ∧ τ' 151 e = (memS f t g d a m).2 ∧ Ag (fun c i => c = 124 ∧ i = 53 ∨ c = 151 ∧ i = e) τ τ' := by
  intro g
  induction g with
  | zero =>
    intro d a m hd9 hd N hN τ h
    obtain ⟨N, rfl, hN⟩ := nsub1 hN
    rw [show fX10_takesMembers_L55 (N + 1) = fX10_takesMembers_B55 (fX10_takesMembers_L55 N) from rfl]
    unfold fX10_takesMembers_B55 fX10_takesMembers_L106
    rw [if_pos (show (9 : Int32) ≤ nI d from (le_i (a := 9) (by omega) (by omega)).2 (by omega)), h.2.2.2.2.2.1, ck_i (by omega) (by omega), cl_i (by omega), lt_e2]
    exact ⟨_, rfl, Ms_ag h (ag_mst (W := fun c i => c = 151 ∧ i = e) τ m ⟨rfl, rfl⟩) (fun _ _ _ => by omega), by rw [mst_at, upd_at]; rfl, ag_mst τ m (Or.inr ⟨rfl, rfl⟩)⟩
  | succ g ih =>
    intro d a m hd9 hd N hN τ h
    obtain ⟨N, rfl, hN⟩ := nsub1 hN
    rw [show fX10_takesMembers_L55 (N + 1) = fX10_takesMembers_B55 (fX10_takesMembers_L55 N) from rfl]
    unfold fX10_takesMembers_B55 fX10_takesMembers_L106
    by_cases c : hit f t a (49 + d) 57
    · have hf := (h.2.2.2.2.2.2 a c.1).1
      have c2 := c.2.1
      have c3 := c.2.2
      obtain ⟨τ', e1, e2, e3, e4⟩ := ih (f a - 48) (a + 1) (m ||| ((1 : Int32) <<< (nI (f a - 48) &&& 31))) (by omega) (by omega) N (by omega) _ (Ms_s h c.1)
      rw [if_neg (show ¬ (9 : Int32) ≤ nI d from fun hh => absurd ((le_i (a := 9) (by omega) (by omega)).1 hh) (by omega)), show (49 : Int32) + nI d = nI (49 + d) from nI_add 49 d, show fX10_isNext τ (nI (49 + d)) 57 = some (1, τ) from mnext_y (hi := 57) h (by omega) (by omega) c, bd_some, if_neg (by decide), (mcur h c.1 _).1, (mcur (α := Int32) h c.1 none).2, show nI (f a) - (48 : Int32) = nI (f a - 48) from nI_sub (b := 48) (by omega), li_e, li_e, h.2.2.2.2.1, nI_s, lt_e2, memS_y m c]
      exact ⟨τ', e1, e2, e3, ag_2 (ag_mst (W := fun c i => c = 124 ∧ i = 53) τ _ ⟨rfl, rfl⟩) (fun _ _ h => Or.inl h) e4 (fun _ _ h => h)⟩
    · have r : ∃ τ', (some ((1 : Int32), mst τ 151 e m)) = some (1, τ') ∧ Ms f t (memS f t (g + 1) d a m).1 e τ' ∧ τ' 151 e = (memS f t (g + 1) d a m).2 ∧ Ag (fun c i => c = 124 ∧ i = 53 ∨ c = 151 ∧ i = e) τ τ' := by
        rw [memS_n m c]
        exact ⟨_, rfl, Ms_ag h (ag_mst (W := fun c i => c = 151 ∧ i = e) τ m ⟨rfl, rfl⟩) (fun _ _ _ => by omega), by rw [mst_at, upd_at], ag_mst τ m (Or.inr ⟨rfl, rfl⟩)⟩
      by_cases c9 : 9 ≤ d
      · rw [if_pos (show (9 : Int32) ≤ nI d from (le_i (a := 9) (by omega) (by omega)).2 c9), h.2.2.2.2.2.1, ck_i (by omega) (by omega), cl_i (by omega), lt_e2]
        exact r
      · rw [if_neg (show ¬ (9 : Int32) ≤ nI d from fun hh => absurd ((le_i (a := 9) (by omega) (by omega)).1 hh) (by omega)), show (49 : Int32) + nI d = nI (49 + d) from nI_add 49 d, show fX10_isNext τ (nI (49 + d)) 57 = some (0, τ) from mnext_n (hi := 57) h (by omega) (by omega) c, bd_some, if_pos rfl, h.2.2.2.2.2.1, ck_i (by omega) (by omega), cl_i (by omega), lt_e2]
        exact r
theorem xmem_loop {f : Nat → Nat} {t e : Nat} (he : e < 20) : ∀ (j l g d a : Nat) (m : Int32), l + j = 58 → 49 + d ≤ l → 9 ≤ d + g → ¬ (a < t ∧ 49 + d ≤ f a ∧ f a < l) → ∀ N, j < N → ∀ σ : Mem, Xs f t a e σ → ∃ σ' b, fX2_parseMembers_L52 N σ m (nI l) = some (b, σ') ∧ (hit f t (memS f t g d a m).1 58 58 → b = 1 ∧ Xs f t ((memS f t g d a m).1 + 1) e σ' ∧ σ' 119 e = (memS f t g d a m).2) ∧ (¬ hit f t (memS f t g d a m).1 58 58 → b = 0 ∧ Xs f t (memS f t g d a m).1 e σ') ∧ Ag (fun c i => c = 116 ∧ i = 2 ∨ c = 119 ∧ i = e) σ σ' := by
  intro j
  induction j with
  | zero =>
    intro l g d a m hl hd hg hn N hN σ h
    obtain ⟨N, rfl, hN⟩ := nsub1 hN
    have hs : memS f t g d a m = (a, m) := memS_n m (fun hh => hn ⟨hh.1, hh.2.1, by have := hh.2.2; omega⟩)
    have h1 : Xs f t a e (mst σ 119 e m) := Xs_ag h (ag_mst (W := fun c i => c = 119 ∧ i = e) σ m ⟨rfl, rfl⟩) (fun _ _ _ => by omega)
    rw [show fX2_parseMembers_L52 (N + 1) = fX2_parseMembers_B52 (fX2_parseMembers_L52 N) from rfl]
    unfold fX2_parseMembers_B52
    rw [if_pos (show (57 : Int32) < nI l from (lt_i (a := 57) (by omega) (by omega)).2 (by omega)), h.2.2.2.2.2.1, ck_i (by omega) (by omega), cl_i (by omega), lt_e2, hs]
    by_cases c : hit f t a 58 58
    · have c2 := c.2.1
      rw [show fX2_take (mst σ 119 e m) 58 58 = _ from xtake_y (lo := 58) (hi := 58) h1 (by omega) (by omega) c, bd_some, if_neg (show ¬ nI (f a) = -1 from nI_m1 (by have := (h.2.2.2.2.2.2 a c.1).1; omega))]
      exact ⟨_, _, rfl, fun _ => ⟨rfl, Xs_s h1 c.1, by rw [mst_ne _ _ _ (by decide), mst_at, upd_at]⟩, fun hh => absurd c hh, ag_2 (ag_mst (W := fun c i => c = 119 ∧ i = e) σ m ⟨rfl, rfl⟩) (fun _ _ h => Or.inr h) (ag_mst (W := fun c i => c = 116 ∧ i = 2) _ _ ⟨rfl, rfl⟩) (fun _ _ h => Or.inl h)⟩
    · rw [show fX2_take (mst σ 119 e m) 58 58 = _ from xtake_n (lo := 58) (hi := 58) h1 (by omega) (by omega) c, bd_some, if_pos rfl]
      exact ⟨_, _, rfl, fun hh => absurd hh c, fun _ => ⟨rfl, h1⟩, ag_mst σ m (Or.inr ⟨rfl, rfl⟩)⟩
  | succ j ih =>
    intro l g d a m hl hd hg hn N hN σ h
    obtain ⟨N, rfl, hN⟩ := nsub1 hN
    rw [show fX2_parseMembers_L52 (N + 1) = fX2_parseMembers_B52 (fX2_parseMembers_L52 N) from rfl]
    unfold fX2_parseMembers_B52 fX2_parseMembers_L81
    rw [if_neg (show ¬ (57 : Int32) < nI l from fun hh => absurd ((lt_i (a := 57) (by omega) (by omega)).1 hh) (by omega))]
    by_cases c : hit f t a l l
    · have c1 := c.1
      have c2 := c.2.1
      have c3 := c.2.2
      have hf := (h.2.2.2.2.2.2 a c.1).1
      have el : f a = l := by omega
      have ch : hit f t a (49 + d) 57 := ⟨c.1, by omega, by omega⟩
      obtain ⟨g, rfl⟩ : ∃ x, g = x + 1 := ⟨g - 1, by omega⟩
      obtain ⟨σ', b, e1, e2, e3, e4⟩ := ih (l + 1) g (f a - 48) (a + 1) (m ||| ((1 : Int32) <<< (nI (f a - 48) &&& 31))) (by omega) (by omega) (by omega) (fun hh => by omega) N (by omega) _ (Xs_s h c.1)
      rw [xtake_y h (by omega) (by omega) c, bd_some, if_neg (show ¬ nI (f a) = -1 from nI_m1 (by omega)), nI_s, memS_y m ch]
      rw [show nI l - (48 : Int32) = nI (f a - 48) from by rw [← el]; exact nI_sub (b := 48) (by omega), li_e]
      exact ⟨σ', b, e1, e2, e3, ag_2 (ag_mst (W := fun c i => c = 116 ∧ i = 2) σ _ ⟨rfl, rfl⟩) (fun _ _ h => Or.inl h) e4 (fun _ _ h => h)⟩
    · rw [xtake_n h (by omega) (by omega) c, bd_some, if_pos rfl, nI_s]
      exact ih (l + 1) g d a m (by omega) (by omega) hg (fun hh => by
        by_cases q : f a = l
        · exact c ⟨hh.1, by omega, by omega⟩
        · exact hn ⟨hh.1, hh.2.1, by omega⟩) N (by omega) σ h
