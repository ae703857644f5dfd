/-! PURE, 1: numbers, loops; what a constraint's violation is, on both sides -/
theorem ck_i {α : Type} {i n : Nat} (h : i < n) (hn : n ≤ 1000000) (a : Option α) : ck (nI i) n a = a := by
  unfold ck
  rw [if_neg (nI_in h (by omega))]
theorem ck_v {α : Type} {x : Int32} {n : Nat} (h : vp_in x n) (a : Option α) : ck x n a = a := by
  unfold ck
  rw [if_neg h]
theorem cl_i {i : Nat} (h : i ≤ 1000000) : (nI i).toNatClampNeg = i := nI_clamp (by omega)
theorem le_i {a b : Nat} (ha : a ≤ 1000000) (hb : b ≤ 1000000) : nI a ≤ nI b ↔ a ≤ b := nI_leI (by omega) (by omega)
theorem lt_i {a b : Nat} (ha : a ≤ 1000000) (hb : b ≤ 1000000) : nI a < nI b ↔ a < b := nI_ltI (by omega) (by omega)
theorem eq_i {a b : Nat} (ha : a ≤ 1000000) (hb : b ≤ 1000000) : nI a = nI b ↔ a = b := nI_eq (by omega) (by omega)
theorem FU_lt {j : Nat} (h : j < 4194304) : j < FU := h
theorem mw_mw (σ : Mem) (c : Nat) (f g : Nat → Int32) : mw (mw σ c f) c g = mw σ c g := by
  funext k
  unfold mw
  by_cases h : k = c
  · rw [if_pos h, if_pos h]
  · rw [if_neg h, if_neg h, if_neg h]
theorem mst_mw (σ : Mem) (c i : Nat) (f : Nat → Int32) (x : Int32) : mst (mw σ c f) c i x = mw σ c (upd f i x) := by
  unfold mst
  rw [mw_mw, mw_at]
theorem mw_self (σ : Mem) (c : Nat) : mw σ c (σ c) = σ := by
  funext k
  unfold mw
  by_cases h : k = c
  · rw [if_pos h, h]
  · rw [if_neg h]
theorem bd_some {α γ : Type} (r : α) (σ : Mem) (K : α → Mem → Option γ) : bd (some (r, σ)) K = K r σ := rfl
theorem bv_some {γ : Type} (σ : Mem) (K : Mem → Option γ) : bv (some σ) K = K σ := rfl
theorem bx_inl {α γ : Type} (r : α) (σ : Mem) (K : α → Mem → Option γ) (E : String → Mem → Option γ) : bx (some (.inl r, σ)) K E = K r σ := rfl
theorem bx_inr {α γ : Type} (e : String) (σ : Mem) (K : α → Mem → Option γ) (E : String → Mem → Option γ) : bx (some (.inr e, σ)) K E = E e σ := rfl
-- bits
def hb (m : Int32) (v : Nat) : Bool := !(decide (((m >>> (nI v &&& 31)) &&& (1 : Int32)) = 0))
theorem and1 (x : Int32) : x &&& 1 = 0 ∨ x &&& 1 = 1 := by
  have h : (x &&& 1).toBitVec = 0#32 ∨ (x &&& 1).toBitVec = 1#32 := by
    have e : (x &&& 1).toBitVec = x.toBitVec &&& 1#32 := rfl
    rw [e]
    generalize x.toBitVec = b
    have h2 : (b &&& 1#32).toNat = b.toNat % 2 := by
      rw [BitVec.toNat_and]
      exact Nat.and_one_is_mod _
    rcases Nat.mod_two_eq_zero_or_one b.toNat with h | h
    · left; apply BitVec.eq_of_toNat_eq; rw [h2, h]; rfl
    · right; apply BitVec.eq_of_toNat_eq; rw [h2, h]; rfl
  rcases h with h | h
  · left; exact Int32.toBitVec_inj.mp h
  · right; exact Int32.toBitVec_inj.mp h
theorem hb_t {m : Int32} {v : Nat} (h : hb m v = true) : ¬ ((m >>> (nI v &&& 31)) &&& (1 : Int32)) = 0 := by simpa [hb] using h
theorem hb_f {m : Int32} {v : Nat} (h : hb m v = false) : ((m >>> (nI v &&& 31)) &&& (1 : Int32)) = 0 := by simpa [hb] using h
theorem has_t (σ : Mem) {m : Int32} {v : Nat} (h : hb m v = true) : fX10_has σ m (nI v) = some (1, σ) := by
  unfold fX10_has
  rw [if_pos ((and1 _).resolve_left (hb_t h))]
theorem has_f (σ : Mem) {m : Int32} {v : Nat} (h : hb m v = false) : fX10_has σ m (nI v) = some (0, σ) := by
  unfold fX10_has
  rw [if_neg (by rw [hb_f h]; decide)]
theorem ite_t {α : Type} {m : Int32} {v : Nat} (h : hb m v = true) (a b : α) : (if ((m >>> (nI v &&& 31)) &&& (1 : Int32)) = 0 then a else b) = b := if_neg (hb_t h)
theorem ite_f {α : Type} {m : Int32} {v : Nat} (h : hb m v = false) (a b : α) : (if ((m >>> (nI v &&& 31)) &&& (1 : Int32)) = 0 then a else b) = a := if_pos (hb_f h)
/-- the values of the members among the first n variables -/
def mlist (m : Int32) (row : Nat → Int32) : Nat → List Int32
  | 0 => []
  | n + 1 => bif hb m n then mlist m row n ++ [row n] else mlist m row n
theorem mlist_t {m : Int32} {v : Nat} (row : Nat → Int32) (h : hb m v = true) : mlist m row (v + 1) = mlist m row v ++ [row v] := by
  show (bif hb m v then _ else _) = _
  rw [h]; rfl
theorem mlist_f {m : Int32} {v : Nat} (row : Nat → Int32) (h : hb m v = false) : mlist m row (v + 1) = mlist m row v := by
  show (bif hb m v then _ else _) = _
  rw [h]; rfl
theorem mlist_len (m : Int32) (row : Nat → Int32) : ∀ n : Nat, (mlist m row n).length ≤ n
  | 0 => Nat.le_refl 0
  | n + 1 => by
    cases h : hb m n with
    | true => rw [mlist_t row h, List.length_append]; have := mlist_len m row n; simp; omega
    | false => rw [mlist_f row h]; have := mlist_len m row n; omega
theorem mlist_mono (m : Int32) (row : Nat → Int32) (n : Nat) : (mlist m row n).length ≤ (mlist m row (n + 1)).length := by
  cases h : hb m n with
  | true => rw [mlist_t row h, List.length_append]; simp
  | false => rw [mlist_f row h]; exact Nat.le_refl _
/-- f begins with the list L -/
def agr (f : Nat → Int32) (L : List Int32) : Prop := ∀ i : Nat, i < L.length → f i = L.getD i 0
theorem agr_push {f : Nat → Int32} {L : List Int32} (h : agr f L) (x : Int32) : agr (upd f L.length x) (L ++ [x]) := by
  intro i hi
  unfold upd
  rw [List.length_append] at hi
  by_cases e : i = L.length
  · subst e
    rw [if_pos rfl, List.getD_eq_getElem?_getD, List.getElem?_append_right (Nat.le_refl _)]
    simp
  · have hi2 : i < L.length := by simp at hi; omega
    rw [if_neg e, h i hi2, List.getD_eq_getElem?_getD, List.getD_eq_getElem?_getD, List.getElem?_append_left hi2]
theorem nsub1 {N j : Nat} (h : j < N) : ∃ k, N = k + 1 ∧ j ≤ k := ⟨N - 1, by omega, by omega⟩
theorem nI_s (v : Nat) : nI v + (1 : Int32) = nI (v + 1) := nI_1 v
theorem gather_loop (q : Nat) (hq : q ≠ 8) (σ : Mem) (m : Int32) (n : Nat) (hn : n ≤ 10) (h7 : σ 1 7 = nI n) : ∀ (j v : Nat), v + j = n → ∀ (N : Nat), j < N → ∀ f, agr f (mlist m (σ q) v) → ∃ f', agr f' (mlist m (σ q) n) ∧ fX4_gather_L13 q N (mw σ 8 f) m (nI (mlist m (σ q) v).length) (nI v) = some (nI (mlist m (σ q) n).length, mw σ 8 f') := by
  intro j
  induction j with
  | zero =>
    intro v hv N hN f hf
    obtain ⟨N, rfl, hN⟩ := nsub1 hN
    have e : v = n := by omega
    subst e
    refine ⟨f, hf, ?_⟩
    show fX4_gather_B13 q (fX4_gather_L13 q N) _ _ _ _ = _
    unfold fX4_gather_B13
    rw [mw_ne σ f (show (1 : Nat) ≠ 8 by decide), h7, if_pos ((le_i (by omega) (by omega)).mpr (Nat.le_refl _))]
  | succ j ih =>
    intro v hv N hN f hf
    obtain ⟨N, rfl, hN⟩ := nsub1 hN
    have hvn : v < n := by omega
    have hlen := mlist_len m (σ q) v
    have step : fX4_gather_L13 q (N + 1) (mw σ 8 f) m (nI (mlist m (σ q) v).length) (nI v) = if hb m v = true then fX4_gather_L13 q N (mw σ 8 (upd f (mlist m (σ q) v).length (σ q v))) m (nI ((mlist m (σ q) v).length + 1)) (nI (v + 1)) else fX4_gather_L13 q N (mw σ 8 f) m (nI (mlist m (σ q) v).length) (nI (v + 1)) := by
      show fX4_gather_B13 q (fX4_gather_L13 q N) _ _ _ _ = _
      unfold fX4_gather_B13 fX4_gather_L45 lt
      rw [mw_ne σ f (show (1 : Nat) ≠ 8 by decide), h7, if_neg (fun h => absurd ((le_i (by omega) (by omega)).mp h) (by omega)), mw_ne σ f hq, mst_mw, cl_i (by omega), cl_i (by omega), nI_s, nI_s, ck_i (by omega) (by omega), ck_i (by omega) (by omega)]
      cases h : hb m v with
      | true => rw [ite_t h, if_pos rfl]
      | false => rw [ite_f h, if_neg (by decide)]
    rw [step]
    cases h : hb m v with
    | true =>
      rw [if_pos rfl]
      have := ih (v + 1) (by omega) N (by omega) (upd f (mlist m (σ q) v).length (σ q v)) (by rw [mlist_t _ h]; exact agr_push hf _)
      rw [mlist_t _ h, List.length_append] at this
      exact this
    | false =>
      rw [if_neg (by decide)]
      have := ih (v + 1) (by omega) N (by omega) f (by rw [mlist_f _ h]; exact hf)
      rw [mlist_f _ h] at this
      exact this
theorem gather_eq (q : Nat) (hq : q ≠ 8) (σ : Mem) (c n : Nat) (hc : c < 20) (hn : n ≤ 10) (h7 : σ 1 7 = nI n) : ∃ f', agr f' (mlist (σ 5 c) (σ q) n) ∧ fX4_gather q σ (nI c) = some (nI (mlist (σ 5 c) (σ q) n).length, mw σ 8 f') := by
  obtain ⟨f', h1, h2⟩ := gather_loop q hq σ (σ 5 c) n hn h7 n 0 (by omega) FU (FU_lt (by omega)) (σ 8) (fun i hi => by simp [mlist] at hi)
  refine ⟨f', h1, ?_⟩
  unfold fX4_gather
  rw [ck_i hc (by omega), cl_i (by omega)]
  rw [mw_self] at h2
  exact h2
-- the four ways to look at a list of values
def sumL (L : List Int32) : Int32 := L.foldl (fun s x => s + x) 0
def zerL (L : List Int32) : Int32 := L.foldl (fun s x => if x = 0 then s + 1 else s) 0
/-- to s, for each p of P nearer to x than d, one is added -/
def iabs (x p : Int32) : Int32 := if p ≤ x then x - p else p - x
def cntL (d x : Int32) (P : List Int32) (s : Int32) : Int32 := P.foldl (fun s p => if iabs x p < d then s + 1 else s) s
def prsF (d : Int32) (st : List Int32 × Int32) (x : Int32) : List Int32 × Int32 := (st.1 ++ [x], cntL d x st.1 st.2)
def prsL (d : Int32) (L : List Int32) : Int32 := (L.foldl (prsF d) ([], 0)).2
def dscF (num : Int32) (st : Option Int32 × Int32) (x : Int32) : Option Int32 × Int32 := (some x, match st.1 with
  | none => st.2
  | some p => if num + p ≤ x then st.2 else st.2 + 1)
def dscL (num : Int32) (L : List Int32) : Int32 := (L.foldl (dscF num) (none, 0)).2
theorem sumL_push (L : List Int32) (x : Int32) : sumL (L ++ [x]) = sumL L + x := by unfold sumL; rw [List.foldl_append]; rfl
theorem zerL_push (L : List Int32) (x : Int32) : zerL (L ++ [x]) = if x = 0 then zerL L + 1 else zerL L := by unfold zerL; rw [List.foldl_append]; rfl
theorem cntL_push (d x : Int32) (P : List Int32) (p s : Int32) : cntL d x (P ++ [p]) s = if iabs x p < d then cntL d x P s + 1 else cntL d x P s := by unfold cntL; rw [List.foldl_append]; rfl
theorem prsF_fst (d : Int32) (L : List Int32) : ∀ (A : List Int32) (s : Int32), (L.foldl (prsF d) (A, s)).1 = A ++ L := by
  induction L with
  | nil => intro A s; simp
  | cons x L ih =>
    intro A s
    show (L.foldl (prsF d) (A ++ [x], _)).1 = _
    rw [ih, List.append_assoc]; rfl
theorem prsL_push (d : Int32) (L : List Int32) (x : Int32) : prsL d (L ++ [x]) = cntL d x L (prsL d L) := by
  unfold prsL
  rw [List.foldl_append]
  show cntL d x (L.foldl (prsF d) ([], 0)).1 _ = _
  rw [prsF_fst]; rfl
theorem dscF_fst (num : Int32) (L : List Int32) (x : Int32) (st : Option Int32 × Int32) : ((L ++ [x]).foldl (dscF num) st).1 = some x := by rw [List.foldl_append]; rfl
theorem dscL_push2 (num : Int32) (L : List Int32) (p x : Int32) : dscL num (L ++ [p] ++ [x]) = if num + p ≤ x then dscL num (L ++ [p]) else dscL num (L ++ [p]) + 1 := by
  unfold dscL
  rw [List.foldl_append]
  show (match ((L ++ [p]).foldl (dscF num) (none, 0)).1 with
    | none => _
    | some q => if num + q ≤ x then _ else _) = _
  rw [dscF_fst]
theorem take_push (L : List Int32) (i : Nat) (h : i < L.length) : L.take (i + 1) = L.take i ++ [L.getD i 0] := by
  rw [List.take_succ, List.getD_eq_getElem?_getD]
  have : L[i]? = some L[i] := List.getElem?_eq_getElem h
  rw [this]; rfl
theorem sum_loop (σ : Mem) (L : List Int32) (hL : agr (σ 8) L) (h10 : L.length ≤ 10) : ∀ (j i : Nat), i + j = L.length → ∀ N, j < N → fX4_sum_L4 N σ (nI L.length) (sumL (L.take i)) (nI i) = some (sumL L, σ) := by
  intro j
  induction j with
  | zero =>
    intro i hi N hN
    obtain ⟨N, rfl, hN⟩ := nsub1 hN
    have e : i = L.length := by omega
    subst e
    show fX4_sum_B4 (fX4_sum_L4 N) _ _ _ _ = _
    unfold fX4_sum_B4
    rw [if_pos ((le_i (by omega) (by omega)).mpr (Nat.le_refl _)), List.take_length]
  | succ j ih =>
    intro i hi N hN
    obtain ⟨N, rfl, hN⟩ := nsub1 hN
    show fX4_sum_B4 (fX4_sum_L4 N) _ _ _ _ = _
    unfold fX4_sum_B4 li
    rw [if_neg (fun h => absurd ((le_i (by omega) (by omega)).mp h) (by omega)), ck_i (by omega) (by omega), cl_i (by omega), nI_s, hL i (by omega), ← sumL_push, ← take_push L i (by omega)]
    exact ih (i + 1) (by omega) N (by omega)
theorem sum_eq (σ : Mem) (L : List Int32) (hL : agr (σ 8) L) (h10 : L.length ≤ 10) : fX4_sum σ (nI L.length) = some (sumL L, σ) :=
  sum_loop σ L hL h10 L.length 0 (by omega) FU (FU_lt (by omega))
theorem zer_loop (σ : Mem) (L : List Int32) (hL : agr (σ 8) L) (h10 : L.length ≤ 10) : ∀ (j i : Nat), i + j = L.length → ∀ N, j < N → fX4_zeros_L4 N σ (nI L.length) (zerL (L.take i)) (nI i) = some (zerL L, σ) := by
  intro j
  induction j with
  | zero =>
    intro i hi N hN
    obtain ⟨N, rfl, hN⟩ := nsub1 hN
    have e : i = L.length := by omega
    subst e
    show fX4_zeros_B4 (fX4_zeros_L4 N) _ _ _ _ = _
    unfold fX4_zeros_B4
    rw [if_pos ((le_i (by omega) (by omega)).mpr (Nat.le_refl _)), List.take_length]
  | succ j ih =>
    intro i hi N hN
    obtain ⟨N, rfl, hN⟩ := nsub1 hN
    have hz := ih (i + 1) (by omega) N (by omega)
    rw [take_push L i (by omega), zerL_push] at hz
    show fX4_zeros_B4 (fX4_zeros_L4 N) _ _ _ _ = _
    unfold fX4_zeros_B4 fX4_zeros_L21
    rw [if_neg (fun h => absurd ((le_i (by omega) (by omega)).mp h) (by omega)), ck_i (by omega) (by omega), cl_i (by omega), nI_s, hL i (by omega)]
    by_cases c : L.getD i 0 = 0
    · rw [if_pos c]; rw [if_pos c] at hz; exact hz
    · rw [if_neg c]; rw [if_neg c] at hz; exact hz
theorem zer_eq (σ : Mem) (L : List Int32) (hL : agr (σ 8) L) (h10 : L.length ≤ 10) : fX4_zeros σ (nI L.length) = some (zerL L, σ) :=
  zer_loop σ L hL h10 L.length 0 (by omega) FU (FU_lt (by omega))
theorem nI_p (v : Nat) : nI (v + 1) - (1 : Int32) = nI v := nI_pred v
theorem dsc_loop (σ : Mem) (num : Int32) (L : List Int32) (hL : agr (σ 8) L) (h10 : L.length ≤ 10) : ∀ (j i : Nat), i + 1 + j = L.length → ∀ N, j < N → fX4_descents_L5 N σ (nI L.length) num (dscL num (L.take (i + 1))) (nI (i + 1)) = some (dscL num L, σ) := by
  intro j
  induction j with
  | zero =>
    intro i hi N hN
    obtain ⟨N, rfl, hN⟩ := nsub1 hN
    show fX4_descents_B5 (fX4_descents_L5 N) _ _ _ _ _ = _
    unfold fX4_descents_B5
    rw [if_pos ((le_i (by omega) (by omega)).mpr (by omega)), show i + 1 = L.length by omega, List.take_length]
  | succ j ih =>
    intro i hi N hN
    obtain ⟨N, rfl, hN⟩ := nsub1 hN
    have hz := ih (i + 1) (by omega) N (by omega)
    rw [take_push L (i + 1) (by omega), take_push L i (by omega), dscL_push2, ← take_push L i (by omega)] at hz
    show fX4_descents_B5 (fX4_descents_L5 N) _ _ _ _ _ = _
    unfold fX4_descents_B5 fX4_descents_L35
    rw [if_neg (fun h => absurd ((le_i (by omega) (by omega)).mp h) (by omega)), ck_i (by omega) (by omega), nI_p, ck_i (by omega) (by omega), cl_i (by omega), cl_i (by omega), nI_s, hL i (by omega), hL (i + 1) (by omega)]
    by_cases c : num + L.getD i 0 ≤ L.getD (i + 1) 0
    · rw [if_pos c]; rw [if_pos c] at hz; exact hz
    · rw [if_neg c]; rw [if_neg c] at hz; exact hz
theorem dsc_eq (σ : Mem) (num : Int32) (L : List Int32) (hL : agr (σ 8) L) (h10 : L.length ≤ 10) : fX4_descents σ (nI L.length) num = some (dscL num L, σ) := by
  unfold fX4_descents
  rcases Nat.eq_zero_or_pos L.length with h0 | h0
  · have e : L = [] := List.length_eq_zero_iff.mp h0
    subst e
    obtain ⟨N9, hN9⟩ : ∃ N9, FU = N9 + 1 := ⟨4194303, rfl⟩
    rw [hN9, show fX4_descents_L5 (N9 + 1) = fX4_descents_B5 (fX4_descents_L5 N9) from rfl]
    unfold fX4_descents_B5
    rw [if_pos (by decide)]
    rfl
  · have := dsc_loop σ num L hL h10 (L.length - 1) 0 (by omega) FU (FU_lt (by omega))
    rw [take_push L 0 h0] at this
    exact this
