/-! PURE, 13: the relation of the two sides: the class's part in σ, the reference's in τ -/
theorem ag_w {W W' : Nat → Nat → Prop} {σ σ' : Mem} (a : Ag W σ σ') (s : ∀ c i, W c i → W' c i) : Ag W' σ σ' := fun c i h => a c i (fun w => h (s c i w))
theorem ag_2 {W W' W2 : Nat → Nat → Prop} {σ σ' σ2 : Mem} (a : Ag W σ σ') (s : ∀ c i, W c i → W2 c i) (a' : Ag W' σ' σ2) (s' : ∀ c i, W' c i → W2 c i) : Ag W2 σ σ2 := ag_t (ag_w a s) s' a'
theorem ag_mst {W : Nat → Nat → Prop} (σ : Mem) {c i : Nat} (x : Int32) (w : W c i) : Ag W σ (mst σ c i x) := fun c' i' hn => by
  by_cases e : c' = c
  · subst e
    by_cases e2 : i' = i
    · subst e2; exact absurd w hn
    · rw [mst_at, upd_ne _ _ e2]
  · rw [mst_ne _ _ _ e]
theorem ag_mw {W : Nat → Nat → Prop} (σ : Mem) {c : Nat} (f : Nat → Int32) (w : ∀ i, W c i) : Ag W σ (mw σ c f) := fun c' i' hn => by
  by_cases e : c' = c
  · subst e; exact absurd (w i') hn
  · rw [mw_ne _ _ e]
-- a problem, and where it lies
def vld (p : Nat → Nat → Int32) (n k : Nat) : Prop := n ≤ 10 ∧ k ≤ 20 ∧ (∀ v, v < n → ∃ s w : Nat, 2 ≤ s ∧ s ≤ 8 ∧ w < s ∧ p 0 v = nI s ∧ p 1 v = nI w) ∧ (∀ c, c < k → kdOk (p 2 c) ∧ mkOk (p 3 c) n ∧ nuOk (p 4 c) ∧ wtOk (p 5 c))
def isX (b : Nat) (σ : Mem) (p : Nat → Nat → Int32) (n k : Nat) : Prop := σ b 7 = nI n ∧ σ b 8 = nI k ∧ (∀ v, v < n → σ (b + 1) v = p 0 v ∧ σ (b + 2) v = p 1 v) ∧ (∀ c, c < k → σ (b + 3) c = p 2 c ∧ σ (b + 4) c = p 3 c ∧ σ (b + 5) c = p 4 c ∧ σ (b + 6) c = p 5 c)
def isM0 (τ : Mem) (p : Nat → Nat → Int32) (n k : Nat) : Prop := τ 124 7 = nI n ∧ τ 124 8 = nI k ∧ (∀ v, v < n → τ 125 v = p 0 v) ∧ (∀ c, c < k → τ 127 c = p 2 c ∧ τ 128 c = p 3 c ∧ τ 129 c = p 4 c ∧ τ 130 c = p 5 c)
def isM (τ : Mem) (p : Nat → Nat → Int32) (n k : Nat) : Prop := isM0 τ p n k ∧ ∀ v, v < n → τ 126 v = p 1 v
def isH (q a : Nat) (τ : Mem) (p : Nat → Nat → Int32) (n k : Nat) : Prop := τ q (a + 100) = nI n ∧ τ q (a + 101) = nI k ∧ (∀ v, v < n → τ q (a + v) = p 0 v ∧ τ q (a + 10 + v) = p 1 v) ∧ (∀ c, c < k → τ q (a + 20 + c) = p 2 c ∧ τ q (a + 40 + c) = p 3 c ∧ τ q (a + 60 + c) = p 4 c ∧ τ q (a + 80 + c) = p 5 c)
theorem isX_tr {b : Nat} {σ σ' : Mem} {p : Nat → Nat → Int32} {n k : Nat} (h : isX b σ p n k) (a7 : σ' b 7 = σ b 7) (a8 : σ' b 8 = σ b 8) (a : ∀ c i, b + 1 ≤ c → c < b + 7 → σ' c i = σ c i) : isX b σ' p n k := by
  obtain ⟨h1, h2, h3, h4⟩ := h
  refine ⟨a7.trans h1, a8.trans h2, fun v hv => ?_, fun c hc => ?_⟩
  · exact ⟨(a _ _ (by omega) (by omega)).trans (h3 v hv).1, (a _ _ (by omega) (by omega)).trans (h3 v hv).2⟩
  · exact ⟨(a _ _ (by omega) (by omega)).trans (h4 c hc).1, (a _ _ (by omega) (by omega)).trans (h4 c hc).2.1, (a _ _ (by omega) (by omega)).trans (h4 c hc).2.2.1, (a _ _ (by omega) (by omega)).trans (h4 c hc).2.2.2⟩
theorem isH_tr {q q' a a' : Nat} {τ τ' : Mem} {p : Nat → Nat → Int32} {n k : Nat} (hn : n ≤ 10) (hk : k ≤ 20) (h : isH q a τ p n k) (e : ∀ i, i < 104 → τ' q' (a' + i) = τ q (a + i)) : isH q' a' τ' p n k := by
  obtain ⟨h1, h2, h3, h4⟩ := h
  refine ⟨(e 100 (by omega)).trans h1, (e 101 (by omega)).trans h2, fun v hv => ⟨(e v (by omega)).trans (h3 v hv).1, ?_⟩, fun c hc => ⟨?_, ?_, ?_, ?_⟩⟩
  · have := e (10 + v) (by omega); rw [← Nat.add_assoc, ← Nat.add_assoc] at this; exact this.trans (h3 v hv).2
  · have := e (20 + c) (by omega); rw [← Nat.add_assoc, ← Nat.add_assoc] at this; exact this.trans (h4 c hc).1
  · have := e (40 + c) (by omega); rw [← Nat.add_assoc, ← Nat.add_assoc] at this; exact this.trans (h4 c hc).2.1
  · have := e (60 + c) (by omega); rw [← Nat.add_assoc, ← Nat.add_assoc] at this; exact this.trans (h4 c hc).2.2.1
  · have := e (80 + c) (by omega); rw [← Nat.add_assoc, ← Nat.add_assoc] at this; exact this.trans (h4 c hc).2.2.2
theorem isM0_tr {τ τ' : Mem} {p : Nat → Nat → Int32} {n k : Nat} (h : isM0 τ p n k) (a7 : τ' 124 7 = τ 124 7) (a8 : τ' 124 8 = τ 124 8) (a5 : ∀ i, τ' 125 i = τ 125 i) (a : ∀ c i, 127 ≤ c → c < 131 → τ' c i = τ c i) : isM0 τ' p n k := by
  obtain ⟨h1, h2, h3, h4⟩ := h
  refine ⟨a7.trans h1, a8.trans h2, fun v hv => (a5 v).trans (h3 v hv), fun c hc => ?_⟩
  exact ⟨(a _ _ (by omega) (by omega)).trans (h4 c hc).1, (a _ _ (by omega) (by omega)).trans (h4 c hc).2.1, (a _ _ (by omega) (by omega)).trans (h4 c hc).2.2.1, (a _ _ (by omega) (by omega)).trans (h4 c hc).2.2.2⟩
abbrev DXp (c i : Nat) : Prop := c = 1 ∧ i = 7 ∨ c = 1 ∧ i = 8 ∨ 2 ≤ c ∧ c < 8
abbrev DMp (c i : Nat) : Prop := c = 124 ∧ i = 7 ∨ c = 124 ∧ i = 8 ∨ 125 ≤ c ∧ c < 131
def prb (p : Nat → Nat → Int32) (n k : Nat) (σ τ : Mem) : Prop := vld p n k ∧ isX 1 σ p n k ∧ isM τ p n k
theorem prb_tr {p : Nat → Nat → Int32} {n k : Nat} {σ τ σ' τ' : Mem} {W W' : Nat → Nat → Prop} (h : prb p n k σ τ) (a : Ag W σ σ') (s : ∀ c i, DXp c i → ¬ W c i) (a' : Ag W' τ τ') (s' : ∀ c i, DMp c i → ¬ W' c i) : prb p n k σ' τ' := by
  obtain ⟨h1, h2, h3, h4⟩ := h
  refine ⟨h1, isX_tr h2 (a _ _ (s _ _ (by omega))) (a _ _ (s _ _ (by omega))) (fun c i _ _ => a _ _ (s _ _ (by omega))), isM0_tr h3 (a' _ _ (s' _ _ (by omega))) (a' _ _ (s' _ _ (by omega))) (fun i => a' _ _ (s' _ _ (by omega))) (fun c i _ _ => a' _ _ (s' _ _ (by omega))), fun v hv => (a' _ _ (s' _ _ (by omega))).trans (h4 v hv)⟩
-- the best values
def bstOk (p : Nat → Nat → Int32) (n : Nat) (bs : Nat → Int32) : Prop := ∀ v, v < n → ∃ s w : Nat, 2 ≤ s ∧ s ≤ 8 ∧ w < s ∧ p 0 v = nI s ∧ bs v = nI w
def bst (p : Nat → Nat → Int32) (n k : Nat) (bs : Nat → Int32) (σ τ : Mem) : Prop := bstOk p n bs ∧ (∀ v, v < n → σ 85 v = bs v ∧ τ 132 v = bs v) ∧ σ 84 5 = cst p bs n k ∧ τ 124 14 = cst p bs n k
theorem bst_tr {p : Nat → Nat → Int32} {n k : Nat} {bs : Nat → Int32} {σ τ σ' τ' : Mem} {W W' : Nat → Nat → Prop} (h : bst p n k bs σ τ) (a : Ag W σ σ') (s : ∀ c i, c = 84 ∧ i = 5 ∨ c = 85 → ¬ W c i) (a' : Ag W' τ τ') (s' : ∀ c i, c = 124 ∧ i = 14 ∨ c = 132 → ¬ W' c i) : bst p n k bs σ' τ' := by
  obtain ⟨h0, h1, h2, h3⟩ := h
  refine ⟨h0, fun v hv => ⟨(a _ _ (s _ _ (by omega))).trans (h1 v hv).1, (a' _ _ (s' _ _ (by omega))).trans (h1 v hv).2⟩, (a _ _ (s _ _ (by omega))).trans h2, (a' _ _ (s' _ _ (by omega))).trans h3⟩
def cou (σ τ : Mem) : Prop := σ 84 6 = τ 124 18 ∧ σ 84 8 = τ 124 16 ∧ σ 84 9 = τ 124 17
theorem cou_tr {σ τ σ' τ' : Mem} {W W' : Nat → Nat → Prop} (h : cou σ τ) (a : Ag W σ σ') (s : ∀ c i, c = 84 ∧ i = 6 ∨ c = 84 ∧ i = 8 ∨ c = 84 ∧ i = 9 → ¬ W c i) (a' : Ag W' τ τ') (s' : ∀ c i, c = 124 ∧ i = 16 ∨ c = 124 ∧ i = 17 ∨ c = 124 ∧ i = 18 → ¬ W' c i) : cou σ' τ' := by
  obtain ⟨h1, h2, h3⟩ := h
  exact ⟨(a _ _ (s _ _ (by omega))).trans (h1.trans (a' _ _ (s' _ _ (by omega))).symm), (a _ _ (s _ _ (by omega))).trans (h2.trans (a' _ _ (s' _ _ (by omega))).symm), (a _ _ (s _ _ (by omega))).trans (h3.trans (a' _ _ (s' _ _ (by omega))).symm)⟩
def stt (σ τ : Mem) : Prop := (∀ j, j < 4 → σ 83 j = τ 124 (20 + j)) ∧ ∃ t : Nat, t ≤ 20 ∧ σ 83 1 = nI t
theorem stt_tr {σ τ σ' τ' : Mem} {W W' : Nat → Nat → Prop} (h : stt σ τ) (a : Ag W σ σ') (s : ∀ c i, c = 83 ∧ i < 4 → ¬ W c i) (a' : Ag W' τ τ') (s' : ∀ c i, c = 124 ∧ 20 ≤ i ∧ i < 24 → ¬ W' c i) : stt σ' τ' := by
  obtain ⟨h1, t, ht, h2⟩ := h
  refine ⟨fun j hj => ?_, t, ht, (a _ _ (s _ _ (by omega))).trans h2⟩
  exact (a _ _ (s _ _ (by omega))).trans ((h1 j hj).trans (a' _ _ (s' _ _ (by omega))).symm)
def ban (n : Nat) (U : Nat → Nat → Nat) (it : Nat) (σ τ : Mem) : Prop := σ 84 7 = nI it ∧ τ 124 15 = nI it ∧ ∀ v a, v < 10 ∧ v < n → a < 8 → U v a ≤ it + 21 ∧ σ (88 + v) a = nI (U v a) ∧ τ 133 (8 * v + a) = nI (U v a) - 1
theorem ban_tr {n : Nat} {U : Nat → Nat → Nat} {it : Nat} {σ τ σ' τ' : Mem} {W W' : Nat → Nat → Prop} (h : ban n U it σ τ) (a : Ag W σ σ') (s : ∀ c i, c = 84 ∧ i = 7 ∨ 88 ≤ c ∧ c < 98 → ¬ W c i) (a' : Ag W' τ τ') (s' : ∀ c i, c = 124 ∧ i = 15 ∨ c = 133 → ¬ W' c i) : ban n U it σ' τ' := by
  obtain ⟨h1, h2, h3⟩ := h
  refine ⟨(a _ _ (s _ _ (by omega))).trans h1, (a' _ _ (s' _ _ (by omega))).trans h2, fun v b hv hb => ?_⟩
  exact ⟨(h3 v b hv hb).1, (a _ _ (s _ _ (by omega))).trans (h3 v b hv hb).2.1, (a' _ _ (s' _ _ (by omega))).trans (h3 v b hv hb).2.2⟩
def lgR (σ τ : Mem) : Prop := ∃ o e : Nat, o < 40 ∧ e ≤ 40 ∧ σ 104 1 = nI o ∧ σ 104 2 = nI e ∧ τ 124 19 = nI e ∧ ∀ j, j < e → (∀ w, w < 6 → σ (106 + w) ((o + j) % 40) = τ 134 (7 * j + w)) ∧ σ 112 ((o + j) % 40) = (if τ 134 (7 * j + 4) < τ 134 (7 * j + 6) then 1 else 0)
theorem lgR_tr {σ τ σ' τ' : Mem} {W W' : Nat → Nat → Prop} (h : lgR σ τ) (a : Ag W σ σ') (s : ∀ c i, c = 104 ∧ i = 1 ∨ c = 104 ∧ i = 2 ∨ 106 ≤ c ∧ c < 113 → ¬ W c i) (a' : Ag W' τ τ') (s' : ∀ c i, c = 124 ∧ i = 19 ∨ c = 134 → ¬ W' c i) : lgR σ' τ' := by
  obtain ⟨o, e, ho, he, h1, h2, h3, h4⟩ := h
  refine ⟨o, e, ho, he, (a _ _ (s _ _ (by omega))).trans h1, (a _ _ (s _ _ (by omega))).trans h2, (a' _ _ (s' _ _ (by omega))).trans h3, fun j hj => ⟨fun w hw => ?_, ?_⟩⟩
  · exact (a _ _ (s _ _ (by omega))).trans (((h4 j hj).1 w hw).trans (a' _ _ (s' _ _ (by omega))).symm)
  · rw [a 112 ((o + j) % 40) (s _ _ (by omega)), a' 134 (7 * j + 4) (s' _ _ (by omega)), a' 134 (7 * j + 6) (s' _ _ (by omega))]
    exact (h4 j hj).2
def hiR (σ τ : Mem) : Prop := ∃ o e : Nat, o < 8 ∧ e ≤ 8 ∧ σ 81 1 = nI o ∧ σ 81 2 = nI e ∧ τ 124 28 = nI e ∧ ∀ j, j < e → ∃ p n k, vld p n k ∧ isX (17 + 8 * ((o + j) % 8)) σ p n k ∧ isH 135 (104 * j) τ p n k
theorem hiR_tr {σ τ σ' τ' : Mem} {W W' : Nat → Nat → Prop} (h : hiR σ τ) (a : Ag W σ σ') (s : ∀ c i, c = 81 ∧ i = 1 ∨ c = 81 ∧ i = 2 ∨ 17 ≤ c ∧ c < 81 → ¬ W c i) (a' : Ag W' τ τ') (s' : ∀ c i, c = 124 ∧ i = 28 ∨ c = 135 → ¬ W' c i) : hiR σ' τ' := by
  obtain ⟨o, e, ho, he, h1, h2, h3, h4⟩ := h
  refine ⟨o, e, ho, he, (a _ _ (s _ _ (by omega))).trans h1, (a _ _ (s _ _ (by omega))).trans h2, (a' _ _ (s' _ _ (by omega))).trans h3, fun j hj => ?_⟩
  obtain ⟨p, n, k, hv, hx, hh⟩ := h4 j hj
  exact ⟨p, n, k, hv, isX_tr hx (a _ _ (s _ _ (by omega))) (a _ _ (s _ _ (by omega))) (fun c i _ _ => a _ _ (s _ _ (by omega))), isH_tr hv.1 hv.2.1 hh (fun i _ => a' _ _ (s' _ _ (by omega)))⟩
def saR (σ τ : Mem) : Prop := (σ 0 8 = 0 ∧ τ 124 30 = 0) ∨ (σ 0 8 = 1 ∧ τ 124 30 = 1 ∧ ∃ p n k, vld p n k ∧ isX 9 σ p n k ∧ isH 136 0 τ p n k)
theorem saR_tr {σ τ σ' τ' : Mem} {W W' : Nat → Nat → Prop} (h : saR σ τ) (a : Ag W σ σ') (s : ∀ c i, c = 0 ∧ i = 8 ∨ c = 9 ∧ i = 7 ∨ c = 9 ∧ i = 8 ∨ 10 ≤ c ∧ c < 16 → ¬ W c i) (a' : Ag W' τ τ') (s' : ∀ c i, c = 124 ∧ i = 30 ∨ c = 136 → ¬ W' c i) : saR σ' τ' := by
  have e1 : σ' 0 8 = σ 0 8 := a _ _ (s _ _ (by omega))
  have e2 : τ' 124 30 = τ 124 30 := a' _ _ (s' _ _ (by omega))
  unfold saR
  rw [e1, e2]
  rcases h with h | ⟨h1, h2, p, n, k, hv, hx, hh⟩
  · exact Or.inl h
  · exact Or.inr ⟨h1, h2, p, n, k, hv, isX_tr hx (a _ _ (s _ _ (by omega))) (a _ _ (s _ _ (by omega))) (fun c i _ _ => a _ _ (s _ _ (by omega))), isH_tr hv.1 hv.2.1 hh (fun i _ => a' _ _ (s' _ _ (by omega)))⟩
def teR (σ τ : Mem) : Prop := ∃ t : Nat, t ≤ 60 ∧ σ 116 1 = nI t ∧ τ 124 52 = nI t ∧ (∀ j, j < t → ∃ a : Nat, 32 ≤ a ∧ a ≤ 126 ∧ σ 117 j = nI a ∧ τ 148 j = nI a) ∧ σ 0 9 = τ 124 55 ∧ (σ 0 9 = -1 ∨ ∃ a : Nat, a ≤ 60 ∧ σ 0 9 = nI a)
theorem teR_tr {σ τ σ' τ' : Mem} {W W' : Nat → Nat → Prop} (h : teR σ τ) (a : Ag W σ σ') (s : ∀ c i, c = 116 ∧ i = 1 ∨ c = 117 ∨ c = 0 ∧ i = 9 → ¬ W c i) (a' : Ag W' τ τ') (s' : ∀ c i, c = 124 ∧ i = 52 ∨ c = 124 ∧ i = 55 ∨ c = 148 → ¬ W' c i) : teR σ' τ' := by
  obtain ⟨t, ht, h1, h2, h3, h4, h5⟩ := h
  refine ⟨t, ht, (a _ _ (s _ _ (by omega))).trans h1, (a' _ _ (s' _ _ (by omega))).trans h2, fun j hj => ?_, ?_, ?_⟩
  · rw [a 117 j (s _ _ (by omega)), a' 148 j (s' _ _ (by omega))]; exact h3 j hj
  · exact (a _ _ (s _ _ (by omega))).trans (h4.trans (a' _ _ (s' _ _ (by omega))).symm)
  · rw [a 0 9 (s _ _ (by omega))]; exact h5
/-- what is known of all combinations is what the reference would find now -/
def suR (p : Nat → Nat → Int32) (n k : Nat) (σ : Mem) : Prop := σ 113 2 = 0 ∨ (σ 113 2 = 1 ∧ (∃ m : Nat, m < 2 ^ k ∧ σ 113 6 = nI m) ∧ ∀ τ, isM0 τ p n k → ∃ τ', fX10_findsAll τ = some (1, τ') ∧ τ' 124 42 = σ 113 3 ∧ τ' 124 43 = σ 113 4 ∧ τ' 124 44 = σ 113 5 ∧ τ' 124 45 = σ 113 6 ∧ ∀ v, v < n → τ' 147 v = σ 115 v)
theorem suR_tr {p : Nat → Nat → Int32} {n k : Nat} {σ σ' : Mem} {W : Nat → Nat → Prop} (h : suR p n k σ) (a : Ag W σ σ') (s : ∀ c i, c = 113 ∨ c = 115 → ¬ W c i) : suR p n k σ' := by
  unfold suR
  rw [a 113 2 (s _ _ (by omega)), a 113 3 (s _ _ (by omega)), a 113 4 (s _ _ (by omega)), a 113 5 (s _ _ (by omega)), a 113 6 (s _ _ (by omega))]
  rcases h with h | ⟨h1, h0, h2⟩
  · exact Or.inl h
  · refine Or.inr ⟨h1, h0, fun τ hτ => ?_⟩
    obtain ⟨τ', e0, e1, e2, e3, e4, e5⟩ := h2 τ hτ
    exact ⟨τ', e0, e1, e2, e3, e4, fun v hv => (e5 v hv).trans (a _ _ (s _ _ (by omega))).symm⟩
-- all
def R0 (B : Nat) (p : Nat → Nat → Int32) (n k : Nat) (bs : Nat → Int32) (U : Nat → Nat → Nat) (it : Nat) (σ τ : Mem) : Prop := it ≤ B ∧ prb p n k σ τ ∧ bst p n k bs σ τ ∧ τ 124 13 = cst p (p 1) n k ∧ cou σ τ ∧ stt σ τ ∧ ban n U it σ τ ∧ lgR σ τ ∧ hiR σ τ ∧ saR σ τ ∧ teR σ τ ∧ suR p n k σ
def RR (B : Nat) (σ τ : Mem) : Prop := ∃ p n k bs U it, R0 B p n k bs U it σ τ
theorem R0_tr {B : Nat} {p : Nat → Nat → Int32} {n k : Nat} {bs : Nat → Int32} {U : Nat → Nat → Nat} {it : Nat} {σ τ σ' τ' : Mem} {W W' : Nat → Nat → Prop} (h : R0 B p n k bs U it σ τ) (a : Ag W σ σ') (s : ∀ c i, c < 124 → ¬ (c = 8 ∨ c = 86 ∨ c = 98 ∨ 100 ≤ c ∧ c < 104 ∨ c = 114 ∨ c = 122 ∨ c = 123) → ¬ W c i) (a' : Ag W' τ τ') (s' : ∀ c i, 124 ≤ c → c < 155 → ¬ (c = 124 ∧ i = 0 ∨ c = 124 ∧ 39 ≤ i ∧ i < 46 ∨ c = 124 ∧ i = 57 ∨ c = 131 ∨ 139 ≤ c ∧ c < 148 ∨ c = 154) → ¬ W' c i) : R0 B p n k bs U it σ' τ' := by
  obtain ⟨h0, h1, h2, h3, h4, h5, h6, h7, h8, h9, hA, hB⟩ := h
  refine ⟨h0, prb_tr h1 a (fun _ _ _ => s _ _ (by omega) (by omega)) a' (fun _ _ _ => s' _ _ (by omega) (by omega) (by omega)), bst_tr h2 a (fun _ _ _ => s _ _ (by omega) (by omega)) a' (fun _ _ _ => s' _ _ (by omega) (by omega) (by omega)), ?_, cou_tr h4 a (fun _ _ _ => s _ _ (by omega) (by omega)) a' (fun _ _ _ => s' _ _ (by omega) (by omega) (by omega)), stt_tr h5 a (fun _ _ _ => s _ _ (by omega) (by omega)) a' (fun _ _ _ => s' _ _ (by omega) (by omega) (by omega)), ban_tr h6 a (fun _ _ _ => s _ _ (by omega) (by omega)) a' (fun _ _ _ => s' _ _ (by omega) (by omega) (by omega)), lgR_tr h7 a (fun _ _ _ => s _ _ (by omega) (by omega)) a' (fun _ _ _ => s' _ _ (by omega) (by omega) (by omega)), hiR_tr h8 a (fun _ _ _ => s _ _ (by omega) (by omega)) a' (fun _ _ _ => s' _ _ (by omega) (by omega) (by omega)), saR_tr h9 a (fun _ _ _ => s _ _ (by omega) (by omega)) a' (fun _ _ _ => s' _ _ (by omega) (by omega) (by omega)), teR_tr hA a (fun _ _ _ => s _ _ (by omega) (by omega)) a' (fun _ _ _ => s' _ _ (by omega) (by omega) (by omega)), suR_tr hB a (fun _ _ _ => s _ _ (by omega) (by omega))⟩
  exact (a' _ _ (s' _ _ (by omega) (by omega) (by omega))).trans h3
theorem RR_tr {B : Nat} {σ τ σ' τ' : Mem} {W W' : Nat → Nat → Prop} (h : RR B σ τ) (a : Ag W σ σ') (s : ∀ c i, c < 124 → ¬ (c = 8 ∨ c = 86 ∨ c = 98 ∨ 100 ≤ c ∧ c < 104 ∨ c = 114 ∨ c = 122 ∨ c = 123) → ¬ W c i) (a' : Ag W' τ τ') (s' : ∀ c i, 124 ≤ c → c < 155 → ¬ (c = 124 ∧ i = 0 ∨ c = 124 ∧ 39 ≤ i ∧ i < 46 ∨ c = 124 ∧ i = 57 ∨ c = 131 ∨ 139 ≤ c ∧ c < 148 ∨ c = 154) → ¬ W' c i) : RR B σ' τ' := by
  obtain ⟨p, n, k, bs, U, it, h⟩ := h
  exact ⟨p, n, k, bs, U, it, R0_tr h a s a' s'⟩
theorem RR_mono {B B' : Nat} {σ τ : Mem} (h : RR B σ τ) (hb : B ≤ B') : RR B' σ τ := by
  obtain ⟨p, n, k, bs, U, it, h0, h⟩ := h
  exact ⟨p, n, k, bs, U, it, by omega, h⟩
/-- a call on both sides, with a wrapper of the law -/
def Sim (X F : Mem → Option (Int32 × Mem)) : Prop := ∀ (B : Nat) (σ τ : Mem), B ≤ 18000 → RR B σ τ → ∃ k σ1 b τ1, X σ = some (k, σ1) ∧ F τ = some (b, τ1) ∧ RR (B + 30) σ1 τ1 ∧ τ1 124 0 = k ∧ (k = 0 → σ1 155 0 = b)
/-- a call that throws nothing -/
def Sim1 (X F : Mem → Option (Int32 × Mem)) : Prop := ∀ (B : Nat) (σ τ : Mem), B ≤ 18000 → RR B σ τ → ∃ r σ1 τ1, X σ = some (r, σ1) ∧ F τ = some (r, τ1) ∧ RR (B + 30) σ1 τ1
theorem sim_glue {X F : Mem → Option (Int32 × Mem)} (h : Sim X F) {WX WF : Nat → Nat → Prop} (hX : ∀ {σ σ' r}, X σ = some (r, σ') → Ag WX σ σ') (sX : ∀ c i, 124 ≤ c → c < 155 → ¬ WX c i) (hF : ∀ {σ σ' r}, F σ = some (r, σ') → Ag WF σ σ') (sF : ∀ c i, c < 124 ∨ 155 ≤ c → ¬ WF c i) {B : Nat} {σ : Mem} (hB : B ≤ 18000) (r : RR B σ σ) : ∃ k σ1 b σ2, X σ = some (k, σ1) ∧ F σ1 = some (b, σ2) ∧ RR (B + 30) σ2 σ2 ∧ σ2 124 0 = k ∧ (k = 0 → σ2 155 0 = b) := by
  obtain ⟨k0, σ1, b0, τ0, hx, -⟩ := h B σ σ hB r
  have ax := hX hx
  have r1 : RR B σ σ1 := RR_tr r (ag_r (W := fun c _ => c < 0)) (fun _ _ _ _ => by omega) ax (fun c i h1 h2 _ => sX c i h1 h2)
  obtain ⟨k, σ1', b, τ1, hx2, hf, hr, ht, hb⟩ := h B σ σ1 hB r1
  rw [hx] at hx2
  cases hx2
  have af := hF hf
  refine ⟨k0, σ1, b, τ1, hx, hf, RR_tr hr af (fun c i h1 _ => sF c i (Or.inl h1)) (ag_r (W := fun c _ => c < 0)) (fun _ _ _ _ _ => by omega), ht, fun h0 => ?_⟩
  exact (af _ _ (sF _ _ (by omega))).trans (hb h0)
theorem sim1_glue {X F : Mem → Option (Int32 × Mem)} (h : Sim1 X F) {WX WF : Nat → Nat → Prop} (hX : ∀ {σ σ' r}, X σ = some (r, σ') → Ag WX σ σ') (sX : ∀ c i, 124 ≤ c → c < 155 → ¬ WX c i) (hF : ∀ {σ σ' r}, F σ = some (r, σ') → Ag WF σ σ') (sF : ∀ c i, c < 124 ∨ 155 ≤ c → ¬ WF c i) {B : Nat} {σ : Mem} (hB : B ≤ 18000) (r : RR B σ σ) : ∃ k σ1 σ2, X σ = some (k, σ1) ∧ F σ1 = some (k, σ2) ∧ RR (B + 30) σ2 σ2 := by
  obtain ⟨k0, σ1, τ0, hx, -⟩ := h B σ σ hB r
  have ax := hX hx
  have r1 : RR B σ σ1 := RR_tr r (ag_r (W := fun c _ => c < 0)) (fun _ _ _ _ => by omega) ax (fun c i h1 h2 _ => sX c i h1 h2)
  obtain ⟨k, σ1', τ1, hx2, hf, hr⟩ := h B σ σ1 hB r1
  rw [hx] at hx2
  cases hx2
  have af := hF hf
  exact ⟨k0, σ1, τ1, hx, hf, RR_tr hr af (fun c i h1 _ => sF c i (Or.inl h1)) (ag_r (W := fun c _ => c < 0)) (fun _ _ _ _ _ => by omega)⟩
