/-! PURE, 47: the whole text, on both sides -/
theorem enS_ok {f : Nat → Nat} {t a : Nat} (h : (enS f t a).1 = true) : a + 3 ≤ (enS f t a).2.1 := by
  unfold enS at *
  by_cases c : hit f t a 118 118
  · rw [if_pos c] at h ⊢
    by_cases d : hit f t (a + 1) 50 56
    · rw [if_pos d] at h ⊢
      by_cases g : hit f t (a + 2) 59 59
      · rw [if_pos g]; exact Nat.le_refl _
      · rw [if_neg g] at h; exact f_t h
    · rw [if_neg d] at h; exact f_t h
  · rw [if_neg c] at h ⊢
    by_cases d : hit f t a 97 102
    · rw [if_pos d] at h ⊢
      by_cases q : (mbS f t (a + 1)).1 = true
      · rw [if_pos q] at h ⊢
        have l1 := mbS_ok q
        by_cases o : (nmS f t (mbS f t (a + 1)).2.1).1 = true
        · rw [if_pos o] at h ⊢
          have l2 := (nmS_ok o).2
          unfold en1 at *
          by_cases g : hit f t (nmS f t (mbS f t (a + 1)).2.1).2.1 49 57
          · rw [if_pos g] at h ⊢
            by_cases k : hit f t ((nmS f t (mbS f t (a + 1)).2.1).2.1 + 1) 59 59
            · rw [if_pos k]; show a + 3 ≤ _ + 2; omega
            · rw [if_neg k] at h; exact f_t h
          · rw [if_neg g] at h; exact f_t h
        · rw [if_neg o] at h; exact f_t h
      · rw [if_neg q] at h; exact f_t h
    · rw [if_neg d] at h; exact f_t h
def AE (i : Nat) (σ τ : Mem) : Prop := ∃ r, xE i σ r ∧ mE i τ r
theorem xE_ag {i : Nat} {σ σ' : Mem} {r : Bool × Nat × Nat × Nat × Int32 × Int32 × Nat} {W : Nat → Nat → Prop} (h : xE i σ r) (w : Ag W σ σ') (s : ∀ c, 118 ≤ c → c < 122 → ¬ W c i) : xE i σ' r := by
  unfold xE
  rw [w 118 i (s _ (by omega) (by omega)), w 119 i (s _ (by omega) (by omega)), w 120 i (s _ (by omega) (by omega)), w 121 i (s _ (by omega) (by omega))]
  exact h
theorem mE_ag {i : Nat} {τ τ' : Mem} {r : Bool × Nat × Nat × Nat × Int32 × Int32 × Nat} {W : Nat → Nat → Prop} (h : mE i τ r) (w : Ag W τ τ') (s : ∀ c, 149 ≤ c → c < 154 → ¬ W c i) : mE i τ' r := by
  unfold mE
  rw [w 149 i (s _ (by omega) (by omega)), w 150 i (s _ (by omega) (by omega)), w 151 i (s _ (by omega) (by omega)), w 152 i (s _ (by omega) (by omega)), w 153 i (s _ (by omega) (by omega))]
  exact h
abbrev bT : Nat → Nat → Prop := fun c i => c = 116 ∧ i = 2 ∨ c = 116 ∧ i = 7 ∨ 118 ≤ c ∧ c < 122
abbrev cT : Nat → Nat → Prop := fun c i => c = 124 ∧ 53 ≤ i ∧ i < 55 ∨ 149 ≤ c ∧ c < 154
def RD (t : Nat) (X Y : Option (Int32 × Mem)) (σ τ : Mem) : Prop := ∃ (ok : Bool) (a' e' : Nat) (σ' τ' : Mem), X = some (b01 ok, σ') ∧ Y = some (b01 ok, τ') ∧ a' ≤ t ∧ σ' 116 2 = nI a' ∧ τ' 124 53 = nI a' ∧ (ok = true → e' ≤ 20 ∧ σ' 116 7 = nI e' ∧ τ' 124 54 = nI e' ∧ ∀ i, i < e' → AE i σ' τ') ∧ Ag bT σ σ' ∧ Ag cT τ τ'
theorem rd_loop {f : Nat → Nat} {t : Nat} : ∀ (g a e : Nat), t < a + g → 3 * e ≤ a → (a < t ∨ e = 0) → ∀ N, g ≤ N → ∀ N', g ≤ N' → ∀ σ τ : Mem, Xs f t a e σ → Ms f t a e τ → (∀ i, i < e → AE i σ τ) → RD t (fX2_parse_L10 N σ) (fX10_takesText_L10 N' τ) σ τ := by
  intro g
  induction g with
  | zero => intro a e h1 h2 h3 N hN N' hN' σ τ hx; have := hx.2.1; omega
  | succ g ih =>
    intro a e h1 h2 h3 N hN N' hN' σ τ hx hm hA
    obtain ⟨N, rfl⟩ : ∃ x, N = x + 1 := ⟨N - 1, by omega⟩
    obtain ⟨N', rfl⟩ : ∃ x, N' = x + 1 := ⟨N' - 1, by omega⟩
    have ht := hx.1
    have hat := hx.2.1
    have he : e < 20 := by omega
    obtain ⟨σ1, e1, x1, k1, a1⟩ := xent (fun σ7 => lt (mst σ7 116 7 ((σ7 116 7) + (1 : Int32))) fun σ8 => if (σ8 116 2) = (σ8 116 1) then (some ((1 : Int32), σ8)) else (fX2_parse_L10 N σ8)) he hx
    obtain ⟨τ1, e2, p2, k2, a2⟩ := ment he hm
    have ex : fX2_parse_L10 (N + 1) σ = tl59 (fun σ7 => lt (mst σ7 116 7 ((σ7 116 7) + (1 : Int32))) fun σ8 => if (σ8 116 2) = (σ8 116 1) then (some ((1 : Int32), σ8)) else (fX2_parse_L10 N σ8)) (fX2_parseEntry σ) := by
      rw [show fX2_parse_L10 (N + 1) = fX2_parse_B10 (fX2_parse_L10 N) from rfl]
      unfold fX2_parse_B10 tl59
      rw [hx.2.2.2.2.2.1, if_neg (show ¬ (20 : Int32) ≤ nI e from fun q => absurd ((le_i (a := 20) (by omega) (by omega)).1 q) (by omega))]
    rw [ex, e1]
    rw [show fX10_takesText_L10 (N' + 1) = fX10_takesText_B10 (fX10_takesText_L10 N') from rfl]
    unfold fX10_takesText_B10
    rw [e2, bd_some]
    have w1 : Ag bT σ σ1 := ag_w a1 (fun _ _ h => by omega)
    have w2 : Ag cT τ τ1 := ag_w a2 (fun _ _ h => by omega)
    cases q : (enS f t a).1 with
    | false =>
      rw [if_neg (fun hh => f_t hh), if_pos (show b01 false = 0 from rfl)]
      exact ⟨false, (enS f t a).2.1, 0, σ1, τ1, rfl, rfl, x1.2.1, x1.2.2.2.2.1, p2, fun hh => f_t hh, w1, w2⟩
    | true =>
      have k1 := k1 q
      obtain ⟨m2, k2⟩ := k2 q
      have l3 := enS_ok q
      rw [if_pos rfl, if_neg (show ¬ b01 true = 0 by decide)]
      generalize enS f t a = R at *
      have xa := x1.2.1
      have x1' : Xs f t R.2.1 (e + 1) (mst σ1 116 7 (nI (e + 1))) := by
        obtain ⟨g1, g2, g3, g4, g5, g6, g7⟩ := x1
        refine ⟨g1, g2, he, ?_, ?_, by rw [mst_at, upd_at], fun j hj => ⟨(g7 j hj).1, by rw [mst_ne _ _ _ (by decide)]; exact (g7 j hj).2⟩⟩
        · rw [mst_at, upd_ne _ _ (by decide)]; exact g4
        · rw [mst_at, upd_ne _ _ (by decide)]; exact g5
      have w3 : Ag bT σ (mst σ1 116 7 (nI (e + 1))) := ag_2 w1 (fun _ _ h => h) (ag_mst (W := bT) _ _ (Or.inr (Or.inl ⟨rfl, rfl⟩))) (fun _ _ h => h)
      have hA' : ∀ i, i < e + 1 → AE i (mst σ1 116 7 (nI (e + 1))) τ1 := by
        intro i hi
        have w7 : Ag (fun c i => c = 116 ∧ i = 7) σ1 (mst σ1 116 7 (nI (e + 1))) := ag_mst _ _ ⟨rfl, rfl⟩
        by_cases c : i = e
        · subst c
          exact ⟨R, xE_ag k1 w7 (fun _ _ _ => by omega), k2⟩
        · obtain ⟨r, r1, r2⟩ := hA i (by omega)
          exact ⟨r, xE_ag (xE_ag r1 a1 (fun _ _ _ => by omega)) w7 (fun _ _ _ => by omega), mE_ag r2 a2 (fun _ _ _ => by omega)⟩
      rw [x1.2.2.2.2.2.1, nI_s, lt_e2, x1'.2.2.2.2.1, x1'.2.2.2.1, m2.2.2.2.2.1, m2.2.2.2.1]
      by_cases c : R.2.1 = t
      · rw [if_pos (congrArg nI c), if_neg (fun hh => absurd ((lt_i (by omega) (by omega)).1 hh) (by omega))]
        exact ⟨true, R.2.1, e + 1, _, τ1, rfl, rfl, xa, x1'.2.2.2.2.1, m2.2.2.2.2.1, fun _ => ⟨he, x1'.2.2.2.2.2.1, m2.2.2.2.2.2.1, hA'⟩, w3, w2⟩
      · rw [if_neg (fun hh => c ((eq_i (by omega) (by omega)).1 hh)), if_pos ((lt_i (by omega) (by omega)).2 (by omega))]
        obtain ⟨ok, a', e', σ', τ', r1, r2, r3, r4, r5, r6, r7, r8⟩ := ih R.2.1 (e + 1) (by omega) (by omega) (Or.inl (by omega)) N (by omega) N' (by omega) _ τ1 x1' m2 hA'
        exact ⟨ok, a', e', σ', τ', r1, r2, r3, r4, r5, r6, ag_2 w3 (fun _ _ h => h) r7 (fun _ _ h => h), ag_2 w2 (fun _ _ h => h) r8 (fun _ _ h => h)⟩
/-- the text, read through -/
theorem rd_R {f : Nat → Nat} {t : Nat} (ht : t ≤ 60) {σ τ : Mem} (x1 : σ 116 1 = nI t) (m1 : τ 124 52 = nI t) (hx : ∀ j, j < t → f j ≤ 126 ∧ σ 117 j = nI (f j)) (hm : ∀ j, j < t → f j ≤ 126 ∧ τ 148 j = nI (f j)) : RD t (fX2_parse σ) (fX10_takesText τ) σ τ := by
  have w1 : Ag bT σ (mst (mst σ 116 2 0) 116 7 0) := ag_2 (ag_mst (W := bT) _ _ (Or.inl ⟨rfl, rfl⟩)) (fun _ _ h => h) (ag_mst (W := bT) _ _ (Or.inr (Or.inl ⟨rfl, rfl⟩))) (fun _ _ h => h)
  have w2 : Ag cT τ (mst (mst τ 124 53 0) 124 54 0) := ag_2 (ag_mst (W := cT) _ _ (Or.inl ⟨rfl, by omega, by omega⟩)) (fun _ _ h => h) (ag_mst (W := cT) _ _ (Or.inl ⟨rfl, by omega, by omega⟩)) (fun _ _ h => h)
  have hX : Xs f t 0 0 (mst (mst σ 116 2 0) 116 7 0) := ⟨ht, Nat.zero_le _, by omega, by rw [w1 116 1 (by omega)]; exact x1, by rw [mst_at, upd_ne _ _ (by decide), mst_at, upd_at]; rfl, by rw [mst_at, upd_at]; rfl, fun j hj => ⟨(hx j hj).1, by rw [w1 117 j (by omega)]; exact (hx j hj).2⟩⟩
  have hM : Ms f t 0 0 (mst (mst τ 124 53 0) 124 54 0) := ⟨ht, Nat.zero_le _, by omega, by rw [w2 124 52 (by omega)]; exact m1, by rw [mst_at, upd_ne _ _ (by decide), mst_at, upd_at]; rfl, by rw [mst_at, upd_at]; rfl, fun j hj => ⟨(hm j hj).1, by rw [w2 148 j (by omega)]; exact (hm j hj).2⟩⟩
  obtain ⟨ok, a', e', σ', τ', r1, r2, r3, r4, r5, r6, r7, r8⟩ := rd_loop (t + 1) 0 0 (by omega) (by omega) (Or.inr rfl) FU (Nat.le_of_lt (FU_lt (by omega))) FU (Nat.le_of_lt (FU_lt (by omega))) _ _ hX hM (fun i hi => absurd hi (by omega))
  refine ⟨ok, a', e', σ', τ', ?_, ?_, r3, r4, r5, r6, ag_2 w1 (fun _ _ h => h) r7 (fun _ _ h => h), ag_2 w2 (fun _ _ h => h) r8 (fun _ _ h => h)⟩
  · unfold fX2_parse
    rw [lt_e2, lt_e2]
    exact r1
  · unfold fX10_takesText
    rw [lt_e2, lt_e2]
    exact r2
