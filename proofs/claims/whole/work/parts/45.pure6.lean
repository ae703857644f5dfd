/-! PURE, 6: what is valid; bounds of violations and costs -/
def nuOk (x : Int32) : Prop := ∃ a : Nat, a ≤ 50 ∧ (x = nI a ∨ x = -nI a)
def wtOk (x : Int32) : Prop := ∃ w : Nat, 1 ≤ w ∧ w ≤ 9 ∧ x = nI w
def mkOk (m : Int32) (n : Nat) : Prop := ∃ w : Nat, w < 2 ^ n ∧ m = nI w
theorem foldl_inv {α β : Type} (I : Nat → α → Prop) (f : α → β → α) : ∀ (L : List β) (j : Nat) (s : α), (∀ j s x, x ∈ L → I j s → I (j + 1) (f s x)) → I j s → I (j + L.length) (L.foldl f s)
  | [], j, s, _, h => h
  | x :: L, j, s, hf, h => by
    have := foldl_inv I f L (j + 1) (f s x) (fun j s y hy => hf j s y (List.mem_cons_of_mem _ hy)) (hf j s x List.mem_cons_self h)
    rw [List.length_cons, show j + (L.length + 1) = j + 1 + L.length by omega]
    exact this
theorem sumL_b {L : List Int32} (hs : ∀ x ∈ L, sml x) : ∃ a : Nat, a ≤ 7 * L.length ∧ sumL L = nI a := by
  have := foldl_inv (fun j (s : Int32) => ∃ a : Nat, a ≤ 7 * j ∧ s = nI a) (fun s x => s + x) L 0 0 (fun j s x hx ⟨a, ha, e⟩ => by
    obtain ⟨b, hb, rfl⟩ := hs x hx
    exact ⟨a + b, by omega, by rw [e, nI_add]⟩) ⟨0, by omega, rfl⟩
  rw [Nat.zero_add] at this
  exact this
theorem zerL_b (L : List Int32) : ∃ a : Nat, a ≤ L.length ∧ zerL L = nI a := by
  have := foldl_inv (fun j (s : Int32) => ∃ a : Nat, a ≤ j ∧ s = nI a) (fun s x => if x = 0 then s + 1 else s) L 0 0 (fun j s x _ ⟨a, ha, e⟩ => by
    by_cases c : x = 0
    · exact ⟨a + 1, by omega, by show (if x = 0 then s + 1 else s) = _; rw [if_pos c, e]; exact nI_s a⟩
    · exact ⟨a, by omega, by show (if x = 0 then s + 1 else s) = _; rw [if_neg c, e]⟩) ⟨0, by omega, rfl⟩
  rw [Nat.zero_add] at this
  exact this
theorem cntL_b (d x : Int32) (P : List Int32) (s0 : Nat) : ∃ a : Nat, a ≤ s0 + P.length ∧ cntL d x P (nI s0) = nI a := by
  have := foldl_inv (fun j (s : Int32) => ∃ a : Nat, a ≤ j ∧ s = nI a) (fun s p => if iabs x p < d then s + 1 else s) P s0 (nI s0) (fun j s y _ ⟨a, ha, e⟩ => by
    by_cases c : iabs x y < d
    · exact ⟨a + 1, by omega, by show (if iabs x y < d then s + 1 else s) = _; rw [if_pos c, e]; exact nI_s a⟩
    · exact ⟨a, by omega, by show (if iabs x y < d then s + 1 else s) = _; rw [if_neg c, e]⟩) ⟨s0, by omega, rfl⟩
  exact this
theorem prsL_b (d : Int32) (L : List Int32) : ∃ a : Nat, a ≤ L.length * L.length ∧ prsL d L = nI a := by
  have := foldl_inv (fun j (s : List Int32 × Int32) => s.1.length = j ∧ ∃ a : Nat, a ≤ j * j ∧ s.2 = nI a) (prsF d) L 0 ([], 0) (fun j s x _ ⟨h1, a, ha, e⟩ => by
    obtain ⟨b, hb, e2⟩ := cntL_b d x s.1 a
    refine ⟨by show (s.1 ++ [x]).length = _; rw [List.length_append, h1]; rfl, b, ?_, ?_⟩
    · rw [h1] at hb
      have : (j + 1) * (j + 1) = j * j + j + j + 1 := by rw [Nat.add_mul, Nat.mul_add]; omega
      omega
    · show cntL d x s.1 s.2 = _
      rw [e, e2]) ⟨rfl, 0, by omega, rfl⟩
  rw [Nat.zero_add] at this
  exact this.2
theorem dscL_b (num : Int32) (L : List Int32) : ∃ a : Nat, a ≤ L.length ∧ dscL num L = nI a := by
  have := foldl_inv (fun j (s : Option Int32 × Int32) => ∃ a : Nat, a ≤ j ∧ s.2 = nI a) (dscF num) L 0 (none, 0) (fun j s x _ ⟨a, ha, e⟩ => by
    obtain ⟨o, t⟩ := s
    cases o with
    | none => exact ⟨a, by omega, e⟩
    | some p =>
      by_cases c : num + p ≤ x
      · exact ⟨a, by omega, by show (if num + p ≤ x then t else t + 1) = _; rw [if_pos c]; exact e⟩
      · exact ⟨a + 1, by omega, by show (if num + p ≤ x then t else t + 1) = _; rw [if_neg c, show t = nI a from e]; exact nI_s a⟩) ⟨0, by omega, rfl⟩
  rw [Nat.zero_add] at this
  exact this
theorem ab_b {s : Nat} (hs : s ≤ 70) {x : Int32} (hx : nuOk x) : ∃ a : Nat, a ≤ 120 ∧ ab (nI s - x) = nI a := by
  have key : ∀ s, s ≤ 70 → ∀ a, a ≤ 50 → (∃ r, r ≤ 120 ∧ ab (nI s - nI a) = nI r) ∧ (∃ r, r ≤ 120 ∧ ab (nI s - -nI a) = nI r) := by
    intro s hs a ha
    constructor
    · by_cases h : a ≤ s
      · refine ⟨s - a, by omega, ?_⟩
        have e : nI s - nI a = nI (s - a) := by
          have := nI_add (s - a) a
          rw [show s - a + a = s by omega] at this
          rw [← this]
          exact Int32.add_sub_cancel _ _
        rw [e]
        unfold ab
        rw [if_pos (nI_pos' (by omega))]
      · refine ⟨a - s, by omega, ?_⟩
        have e : nI s - nI a = -nI (a - s) := by
          have := nI_add (a - s) s
          rw [show a - s + s = a by omega] at this
          rw [← this, Int32.sub_eq_add_neg, Int32.neg_add, Int32.add_comm, Int32.sub_add_cancel]
        rw [e]
        unfold ab
        have hp : 0 < a - s := by omega
        rw [if_neg, Int32.neg_neg]
        intro hz
        have hlt : nI (a - s) ≤ 0 := by
          rw [Int32.le_iff_toInt_le] at hz ⊢
          rw [Int32.toInt_neg, nI_toInt (by omega), Int32.toInt_zero] at *
          have hb : Int.bmod (-((a - s : Nat) : Int)) (2 ^ 32) = -((a - s : Nat) : Int) := by
            apply Int.bmod_eq_of_le <;> omega
          rw [hb] at hz
          omega
        exact nI_nle hp (by omega) hlt
    · refine ⟨s + a, by omega, ?_⟩
      rw [Int32.sub_eq_add_neg, Int32.neg_neg, nI_add]
      unfold ab
      rw [if_pos (nI_pos' (by omega))]
  obtain ⟨a, ha, rfl | rfl⟩ := hx
  · exact (key s hs a ha).1
  · exact (key s hs a ha).2
theorem vio_b {kind num : Int32} {L : List Int32} (hn : nuOk num) (hl : L.length ≤ 10) (hs : ∀ x ∈ L, sml x) : ∃ a : Nat, a ≤ 120 ∧ vio kind num L = nI a := by
  obtain ⟨s, hs1, hs2⟩ := sumL_b hs
  obtain ⟨z, hz1, hz2⟩ := zerL_b L
  obtain ⟨r, hr1, hr2⟩ := ab_b (s := s) (by omega) hn
  obtain ⟨t, ht1, ht2⟩ := ab_b (s := z) (by omega) hn
  obtain ⟨d, hd1, hd2⟩ := dscL_b num L
  have hsq : L.length * L.length ≤ 100 := Nat.mul_le_mul hl hl
  obtain ⟨p1, hp1, hp2⟩ := prsL_b 1 L
  obtain ⟨q1, hq1, hq2⟩ := prsL_b num L
  unfold vio
  rw [hs2, hz2, hr2, ht2, hd2, hp2, hq2]
  by_cases c0 : kind = 0
  · rw [if_pos c0]; exact ⟨p1, by omega, rfl⟩
  rw [if_neg c0]
  by_cases c1 : kind = 1
  · rw [if_pos c1]
    by_cases c : 0 ≤ nI s - num
    · rw [if_pos c]
      have : ab (nI s - num) = nI s - num := by unfold ab; rw [if_pos c]
      rw [this] at hr2
      exact ⟨r, hr1, hr2⟩
    · rw [if_neg c]; exact ⟨0, by omega, rfl⟩
  rw [if_neg c1]
  by_cases c2 : kind = 2
  · rw [if_pos c2]; exact ⟨r, hr1, rfl⟩
  rw [if_neg c2]
  by_cases c3 : kind = 3
  · rw [if_pos c3]; exact ⟨d, by omega, rfl⟩
  rw [if_neg c3]
  by_cases c4 : kind = 4
  · rw [if_pos c4]; exact ⟨t, ht1, rfl⟩
  rw [if_neg c4]
  exact ⟨q1, by omega, rfl⟩
theorem cst_b {p : Nat → Nat → Int32} {row : Nat → Int32} {n : Nat} (hn : n ≤ 10) (hs : ∀ v, v < n → sml (row v)) : ∀ k : Nat, (∀ c, c < k → nuOk (p 4 c) ∧ wtOk (p 5 c)) → ∃ a : Nat, a ≤ 1080 * k ∧ cst p row n k = nI a
  | 0, _ => ⟨0, by omega, rfl⟩
  | k + 1, h => by
    obtain ⟨a, ha, e⟩ := cst_b hn hs k (fun c hc => h c (by omega))
    obtain ⟨h4, w, hw1, hw9, h5⟩ := h k (by omega)
    obtain ⟨v, hv, ev⟩ := vio_b (kind := p 2 k) h4 (Nat.le_trans (mlist_len (p 3 k) row n) hn) (mlist_sml (p 3 k) row n hs)
    have hm : w * v ≤ 9 * 120 := Nat.mul_le_mul hw9 hv
    refine ⟨a + w * v, by omega, ?_⟩
    show cst p row n k + p 5 k * vioP p row n k = _
    unfold vioP
    rw [e, h5, ev]
    have : nI w * nI v = nI (w * v) := (Int32.ofNat_mul w v).symm
    rw [this, nI_add]
