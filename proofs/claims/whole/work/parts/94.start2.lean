/-! THE FIRST CELLS (by program): what the constructors leave is the first memory -/
def adz (h0 : Nat) (q : Nat → Nat) (h1 : Nat) (r : Nat → Nat) (j d b : Nat) : Nat → Nat := fun c => if c = 0 then h0 else if c < 17 then q (c - 1) else if c < 81 then q (c + 1) else if c < 83 then q (c - 65) else if c < 124 then q (c - 1) else if c = 124 then h1 else if c < 155 then r (c - 125) else if c = 155 then j else if c = 156 then d else b
/-- the place of a cell among those that the constructors leave -/
def plc (c : Nat) : Nat := if c < 17 then c else if c < 81 then c + 2 else if c < 83 then c - 64 else c
theorem plc_lt {c : Nat} (h : c < 124) : plc c < 124 := by
  unfold plc
  split
  · omega
  · split
    · omega
    · split <;> omega
theorem plc_ge {c : Nat} (h : ¬ c < 124) : plc c = c := by
  unfold plc
  rw [if_neg (by omega), if_neg (by omega), if_neg (by omega)]
theorem plc_inj {a b : Nat} (h : plc a = plc b) : a = b := by
  unfold plc at h
  split at h <;> split at h <;> (try split at h) <;> (try split at h) <;> (try split at h) <;> (try split at h) <;> omega
def sg0 : Mem := fun c => if c = 0 then (fun i => if i = 9 then -1 else 0) else if c = 83 then (fun i => if i = 0 then 15 else if i = 1 then 3 else if i = 2 then 20 else if i = 3 then 1 else 0) else if c = 124 then (fun i => if i = 20 then 15 else if i = 21 then 3 else if i = 22 then 20 else if i = 23 then 1 else if i = 55 then -1 else 0) else fun _ => 0
theorem sg0_ok : RR 0 sg0 sg0 := RR_start ⟨rfl, rfl, rfl, rfl⟩ ⟨rfl, rfl, rfl⟩ ⟨rfl, rfl, rfl, rfl, rfl, rfl⟩ ⟨⟨rfl, rfl⟩, ⟨rfl, rfl⟩, ⟨rfl, rfl⟩, ⟨rfl, rfl⟩⟩ ⟨rfl, rfl⟩ ⟨rfl, rfl, rfl⟩ ⟨rfl, rfl, rfl⟩ ⟨rfl, rfl⟩ ⟨rfl, rfl, rfl, rfl⟩ rfl
def w9 (cy : Nat → ClassId) (h0 : Nat) (q : Nat → Nat) : va_W := [(h0, .inr (9, [.ref (q 0), .ref (q 8), .ref (q 16), .ref (q 82), .ref (q 83), .ref (q 112), .ref (q 115), .ref (q 121), .int 0, .int (-1)])), ((q 0), .inr (4, [.ref (q 1), .ref (q 2), .ref (q 3), .ref (q 4), .ref (q 5), .ref (q 6), .ref (q 7), .int 0, .int 0])), ((q 1), .inl (cy 0, 10, .inl (fun _ => 0))), ((q 2), .inl (cy 0, 10, .inl (fun _ => 0))), ((q 3), .inl (cy 0, 20, .inl (fun _ => 0))), ((q 4), .inl (cy 0, 20, .inl (fun _ => 0))), ((q 5), .inl (cy 0, 20, .inl (fun _ => 0))), ((q 6), .inl (cy 0, 20, .inl (fun _ => 0))), ((q 7), .inl (cy 0, 10, .inl (fun _ => 0))), ((q 8), .inr (4, [.ref (q 9), .ref (q 10), .ref (q 11), .ref (q 12), .ref (q 13), .ref (q 14), .ref (q 15), .int 0, .int 0])), ((q 9), .inl (cy 0, 10, .inl (fun _ => 0))), ((q 10), .inl (cy 0, 10, .inl (fun _ => 0))), ((q 11), .inl (cy 0, 20, .inl (fun _ => 0))), ((q 12), .inl (cy 0, 20, .inl (fun _ => 0))), ((q 13), .inl (cy 0, 20, .inl (fun _ => 0))), ((q 14), .inl (cy 0, 20, .inl (fun _ => 0))), ((q 15), .inl (cy 0, 10, .inl (fun _ => 0))), ((q 16), .inr (1, [.ref (q 17), .int 0, .int 0])), ((q 17), .inl (cy 4, 8, .inr (.inr (.inr (.inr (va_up (va_up (va_up (va_up (va_up (va_up (va_up (va_up (fun _ => none) 0 (some (q 18))) 1 (some (q 26))) 2 (some (q 34))) 3 (some (q 42))) 4 (some (q 50))) 5 (some (q 58))) 6 (some (q 66))) 7 (some (q 74)))))))), ((q 18), .inr (4, [.ref (q 19), .ref (q 20), .ref (q 21), .ref (q 22), .ref (q 23), .ref (q 24), .ref (q 25), .int 0, .int 0])), ((q 19), .inl (cy 0, 10, .inl (fun _ => 0))), ((q 20), .inl (cy 0, 10, .inl (fun _ => 0))), ((q 21), .inl (cy 0, 20, .inl (fun _ => 0))), ((q 22), .inl (cy 0, 20, .inl (fun _ => 0))), ((q 23), .inl (cy 0, 20, .inl (fun _ => 0))), ((q 24), .inl (cy 0, 20, .inl (fun _ => 0))), ((q 25), .inl (cy 0, 10, .inl (fun _ => 0))), ((q 26), .inr (4, [.ref (q 27), .ref (q 28), .ref (q 29), .ref (q 30), .ref (q 31), .ref (q 32), .ref (q 33), .int 0, .int 0])), ((q 27), .inl (cy 0, 10, .inl (fun _ => 0))), ((q 28), .inl (cy 0, 10, .inl (fun _ => 0))), ((q 29), .inl (cy 0, 20, .inl (fun _ => 0))), ((q 30), .inl (cy 0, 20, .inl (fun _ => 0))), ((q 31), .inl (cy 0, 20, .inl (fun _ => 0))), ((q 32), .inl (cy 0, 20, .inl (fun _ => 0))), ((q 33), .inl (cy 0, 10, .inl (fun _ => 0))), ((q 34), .inr (4, [.ref (q 35), .ref (q 36), .ref (q 37), .ref (q 38), .ref (q 39), .ref (q 40), .ref (q 41), .int 0, .int 0])), ((q 35), .inl (cy 0, 10, .inl (fun _ => 0))), ((q 36), .inl (cy 0, 10, .inl (fun _ => 0))), ((q 37), .inl (cy 0, 20, .inl (fun _ => 0))), ((q 38), .inl (cy 0, 20, .inl (fun _ => 0))), ((q 39), .inl (cy 0, 20, .inl (fun _ => 0))), ((q 40), .inl (cy 0, 20, .inl (fun _ => 0))), ((q 41), .inl (cy 0, 10, .inl (fun _ => 0))), ((q 42), .inr (4, [.ref (q 43), .ref (q 44), .ref (q 45), .ref (q 46), .ref (q 47), .ref (q 48), .ref (q 49), .int 0, .int 0])), ((q 43), .inl (cy 0, 10, .inl (fun _ => 0))), ((q 44), .inl (cy 0, 10, .inl (fun _ => 0))), ((q 45), .inl (cy 0, 20, .inl (fun _ => 0))), ((q 46), .inl (cy 0, 20, .inl (fun _ => 0))), ((q 47), .inl (cy 0, 20, .inl (fun _ => 0))), ((q 48), .inl (cy 0, 20, .inl (fun _ => 0))), ((q 49), .inl (cy 0, 10, .inl (fun _ => 0))), ((q 50), .inr (4, [.ref (q 51), .ref (q 52), .ref (q 53), .ref (q 54), .ref (q 55), .ref (q 56), .ref (q 57), .int 0, .int 0])), ((q 51), .inl (cy 0, 10, .inl (fun _ => 0))), ((q 52), .inl (cy 0, 10, .inl (fun _ => 0))), ((q 53), .inl (cy 0, 20, .inl (fun _ => 0))), ((q 54), .inl (cy 0, 20, .inl (fun _ => 0))), ((q 55), .inl (cy 0, 20, .inl (fun _ => 0))), ((q 56), .inl (cy 0, 20, .inl (fun _ => 0))), ((q 57), .inl (cy 0, 10, .inl (fun _ => 0))), ((q 58), .inr (4, [.ref (q 59), .ref (q 60), .ref (q 61), .ref (q 62), .ref (q 63), .ref (q 64), .ref (q 65), .int 0, .int 0])), ((q 59), .inl (cy 0, 10, .inl (fun _ => 0))), ((q 60), .inl (cy 0, 10, .inl (fun _ => 0))), ((q 61), .inl (cy 0, 20, .inl (fun _ => 0))), ((q 62), .inl (cy 0, 20, .inl (fun _ => 0))), ((q 63), .inl (cy 0, 20, .inl (fun _ => 0))), ((q 64), .inl (cy 0, 20, .inl (fun _ => 0))), ((q 65), .inl (cy 0, 10, .inl (fun _ => 0))), ((q 66), .inr (4, [.ref (q 67), .ref (q 68), .ref (q 69), .ref (q 70), .ref (q 71), .ref (q 72), .ref (q 73), .int 0, .int 0])), ((q 67), .inl (cy 0, 10, .inl (fun _ => 0))), ((q 68), .inl (cy 0, 10, .inl (fun _ => 0))), ((q 69), .inl (cy 0, 20, .inl (fun _ => 0))), ((q 70), .inl (cy 0, 20, .inl (fun _ => 0))), ((q 71), .inl (cy 0, 20, .inl (fun _ => 0))), ((q 72), .inl (cy 0, 20, .inl (fun _ => 0))), ((q 73), .inl (cy 0, 10, .inl (fun _ => 0))), ((q 74), .inr (4, [.ref (q 75), .ref (q 76), .ref (q 77), .ref (q 78), .ref (q 79), .ref (q 80), .ref (q 81), .int 0, .int 0])), ((q 75), .inl (cy 0, 10, .inl (fun _ => 0))), ((q 76), .inl (cy 0, 10, .inl (fun _ => 0))), ((q 77), .inl (cy 0, 20, .inl (fun _ => 0))), ((q 78), .inl (cy 0, 20, .inl (fun _ => 0))), ((q 79), .inl (cy 0, 20, .inl (fun _ => 0))), ((q 80), .inl (cy 0, 20, .inl (fun _ => 0))), ((q 81), .inl (cy 0, 10, .inl (fun _ => 0))), ((q 82), .inr (5, [.int 15, .int 3, .int 20, .int 1])), ((q 83), .inr (8, [.ref (q 84), .ref (q 85), .ref (q 86), .ref (q 97), .ref (q 103), .int 0, .int 0, .int 0, .int 0, .int 0])), ((q 84), .inl (cy 0, 10, .inl (fun _ => 0))), ((q 85), .inl (cy 0, 10, .inl (fun _ => 0))), ((q 86), .inl (cy 3, 10, .inr (.inr (.inr (.inr (fun i => if i < 10 then some (q (87 + i)) else none)))))), ((q 87), .inl (cy 0, 8, .inl (fun _ => 0))), ((q 88), .inl (cy 0, 8, .inl (fun _ => 0))), ((q 89), .inl (cy 0, 8, .inl (fun _ => 0))), ((q 90), .inl (cy 0, 8, .inl (fun _ => 0))), ((q 91), .inl (cy 0, 8, .inl (fun _ => 0))), ((q 92), .inl (cy 0, 8, .inl (fun _ => 0))), ((q 93), .inl (cy 0, 8, .inl (fun _ => 0))), ((q 94), .inl (cy 0, 8, .inl (fun _ => 0))), ((q 95), .inl (cy 0, 8, .inl (fun _ => 0))), ((q 96), .inl (cy 0, 8, .inl (fun _ => 0))), ((q 97), .inr (3, [.ref (q 98), .int 0])), ((q 98), .inl (cy 3, 4, .inr (.inr (.inr (.inr (fun i => if i < 4 then some (q (99 + i)) else none)))))), ((q 99), .inl (cy 0, 375, .inl (fun _ => 0))), ((q 100), .inl (cy 0, 375, .inl (fun _ => 0))), ((q 101), .inl (cy 0, 375, .inl (fun _ => 0))), ((q 102), .inl (cy 0, 375, .inl (fun _ => 0))), ((q 103), .inr (6, [.ref (q 104), .int 0, .int 0])), ((q 104), .inl (cy 3, 7, .inr (.inr (.inr (.inr (fun i => if i < 7 then some (q (105 + i)) else none)))))), ((q 105), .inl (cy 0, 40, .inl (fun _ => 0))), ((q 106), .inl (cy 0, 40, .inl (fun _ => 0))), ((q 107), .inl (cy 0, 40, .inl (fun _ => 0))), ((q 108), .inl (cy 0, 40, .inl (fun _ => 0))), ((q 109), .inl (cy 0, 40, .inl (fun _ => 0))), ((q 110), .inl (cy 0, 40, .inl (fun _ => 0))), ((q 111), .inl (cy 0, 40, .inl (fun _ => 0))), ((q 112), .inr (7, [.ref (q 113), .ref (q 114), .int 0, .int 0, .int 0, .int 0, .int 0])), ((q 113), .inl (cy 0, 10, .inl (fun _ => 0))), ((q 114), .inl (cy 0, 10, .inl (fun _ => 0))), ((q 115), .inr (2, [.ref (q 116), .int 0, .int 0, .ref (q 117), .ref (q 118), .ref (q 119), .ref (q 120), .int 0])), ((q 116), .inl (cy 1, 60, .inl (fun _ => 0))), ((q 117), .inl (cy 0, 20, .inl (fun _ => 0))), ((q 118), .inl (cy 0, 20, .inl (fun _ => 0))), ((q 119), .inl (cy 0, 20, .inl (fun _ => 0))), ((q 120), .inl (cy 0, 20, .inl (fun _ => 0))), ((q 121), .inr (0, [.ref (q 122), .int 0])), ((q 122), .inl (cy 1, 18, .inl (fun _ => 0)))]
def w10 (cy : Nat → ClassId) (h0 : Nat) (q : Nat → Nat) : va_W := [(h0, .inr (10, [.int 0, .ref (q 0), .ref (q 1), .ref (q 2), .ref (q 3), .ref (q 4), .ref (q 5), .int 0, .int 0, .ref (q 6), .ref (q 7), .ref (q 8), .ref (q 9), .int 0, .int 0, .int 0, .int 0, .int 0, .int 0, .int 0, .int 15, .int 3, .int 20, .int 1, .ref (q 10), .ref (q 11), .ref (q 12), .ref (q 13), .int 0, .int 0, .int 0, .int 0, .ref (q 14), .ref (q 15), .ref (q 16), .ref (q 17), .ref (q 18), .ref (q 19), .ref (q 20), .int 0, .ref (q 21), .ref (q 22), .int 0, .int 0, .int 0, .int 0, .ref (q 23), .ref (q 24), .ref (q 25), .ref (q 26), .ref (q 27), .ref (q 28), .int 0, .int 0, .int 0, .int (-1), .ref (q 29), .int 0])), ((q 0), .inl (cy 0, 10, .inl (fun _ => 0))), ((q 1), .inl (cy 0, 10, .inl (fun _ => 0))), ((q 2), .inl (cy 0, 20, .inl (fun _ => 0))), ((q 3), .inl (cy 0, 20, .inl (fun _ => 0))), ((q 4), .inl (cy 0, 20, .inl (fun _ => 0))), ((q 5), .inl (cy 0, 20, .inl (fun _ => 0))), ((q 6), .inl (cy 0, 8, .inl (fun _ => 0))), ((q 7), .inl (cy 0, 10, .inl (fun _ => 0))), ((q 8), .inl (cy 0, 80, .inl (fun _ => 0))), ((q 9), .inl (cy 0, 280, .inl (fun _ => 0))), ((q 10), .inl (cy 0, 832, .inl (fun _ => 0))), ((q 11), .inl (cy 0, 104, .inl (fun _ => 0))), ((q 12), .inl (cy 0, 104, .inl (fun _ => 0))), ((q 13), .inl (cy 0, 104, .inl (fun _ => 0))), ((q 14), .inl (cy 0, 400, .inl (fun _ => 0))), ((q 15), .inl (cy 0, 400, .inl (fun _ => 0))), ((q 16), .inl (cy 0, 400, .inl (fun _ => 0))), ((q 17), .inl (cy 0, 400, .inl (fun _ => 0))), ((q 18), .inl (cy 0, 400, .inl (fun _ => 0))), ((q 19), .inl (cy 0, 10, .inl (fun _ => 0))), ((q 20), .inl (cy 2, 400, .inl (fun _ => 0))), ((q 21), .inl (cy 0, 10, .inl (fun _ => 0))), ((q 22), .inl (cy 0, 10, .inl (fun _ => 0))), ((q 23), .inl (cy 0, 60, .inl (fun _ => 0))), ((q 24), .inl (cy 0, 30, .inl (fun _ => 0))), ((q 25), .inl (cy 0, 30, .inl (fun _ => 0))), ((q 26), .inl (cy 0, 30, .inl (fun _ => 0))), ((q 27), .inl (cy 0, 30, .inl (fun _ => 0))), ((q 28), .inl (cy 0, 30, .inl (fun _ => 0))), ((q 29), .inl (cy 0, 24, .inl (fun _ => 0)))]
def wz (cy : Nat → ClassId) (h0 : Nat) (q : Nat → Nat) (h1 : Nat) (r : Nat → Nat) (j d : Nat) : va_W := ((w9 cy h0 q ++ w10 cy h1 r) ++ [(j, .inl (cy 5, 1, .inr (.inl (fun _ => 0))))]) ++ [(d, .inl (cy 6, 1, .inr (.inr (.inr (.inl (fun _ => 0))))))]
theorem w9_len (cy : Nat → ClassId) (h0 : Nat) (q : Nat → Nat) : (w9 cy h0 q).length = 124 := rfl
theorem w10_len (cy : Nat → ClassId) (h0 : Nat) (q : Nat → Nat) : (w10 cy h0 q).length = 31 := rfl
theorem arrV_ext {c : ClassId} {n : Nat} {f g : Nat → Value} (h : ∀ i, i < n → f i = g i) : arrV c n f = arrV c n g := by
  unfold arrV
  rw [show (fun j : Fin n => f j.val) = (fun j : Fin n => g j.val) from funext fun j => h j.val j.isLt]
theorem at_q {D : va_G} {cl : List vw_C} {H : Heap} {a n : Nat} {cA : ClassId} {f g : Nat → Option Nat} (h : va_at D cl (a, .inl (cA, n, .inr (.inr (.inr (.inr f))))) H) (e : ∀ i, i < n → f i = g i) : va_at D cl (a, .inl (cA, n, .inr (.inr (.inr (.inr g))))) H := by
  show H[a]? = some (arrV cA n (fun j => va_rf (g j)))
  rw [← arrV_ext (f := fun j => va_rf (f j)) (fun i hi => congrArg va_rf (e i hi))]
  exact h
theorem at_l {D : va_G} {cl : List vw_C} {H : Heap} {a n : Nat} {cA : ClassId} {f g : Nat → Int64} (h : va_at D cl (a, .inl (cA, n, .inr (.inl f))) H) (e : ∀ i, i < n → f i = g i) : va_at D cl (a, .inl (cA, n, .inr (.inl g))) H := by
  show H[a]? = some (arrV cA n (fun j => .long (g j)))
  rw [← arrV_ext (f := fun j => .long (f j)) (fun i hi => congrArg Value.long (e i hi))]
  exact h
theorem at_d {D : va_G} {cl : List vw_C} {H : Heap} {a n : Nat} {cA : ClassId} {f g : Nat → UInt64} (h : va_at D cl (a, .inl (cA, n, .inr (.inr (.inr (.inl f))))) H) (e : ∀ i, i < n → f i = g i) : va_at D cl (a, .inl (cA, n, .inr (.inr (.inr (.inl g))))) H := by
  show H[a]? = some (arrV cA n (fun j => .double (g j)))
  rw [← arrV_ext (f := fun j => .double (f j)) (fun i hi => congrArg Value.double (e i hi))]
  exact h
set_option maxRecDepth 100000 in
set_option maxHeartbeats 4000000 in
theorem z9_0 {cy : Nat → ClassId} {h0 : Nat} {q : Nat → Nat} {h1 : Nat} {r : Nat → Nat} {j d b : Nat} : ∀ k, 0 ≤ k → k < 16 → ∃ e : va_E, (w9 cy h0 q)[plc k]? = some (adz h0 q h1 r j d b k, e) ∧ ∀ (D : va_G) (H : Heap), va_at D wCl (adz h0 q h1 r j d b k, e) H → va_at D wCl (adz h0 q h1 r j d b k, sh (adz h0 q h1 r j d b) cy k (sg0 k)) H := by
  intro k hk1 hk2
  rcases (show k = 0 ∨ k = 1 ∨ k = 2 ∨ k = 3 ∨ k = 4 ∨ k = 5 ∨ k = 6 ∨ k = 7 ∨ k = 8 ∨ k = 9 ∨ k = 10 ∨ k = 11 ∨ k = 12 ∨ k = 13 ∨ k = 14 ∨ k = 15 by omega) with rfl | rfl | rfl | rfl | rfl | rfl | rfl | rfl | rfl | rfl | rfl | rfl | rfl | rfl | rfl | rfl
  · exact ⟨_, rfl, fun D H h => h⟩
  · exact ⟨_, rfl, fun D H h => h⟩
  · exact ⟨_, rfl, fun D H h => h⟩
  · exact ⟨_, rfl, fun D H h => h⟩
  · exact ⟨_, rfl, fun D H h => h⟩
  · exact ⟨_, rfl, fun D H h => h⟩
  · exact ⟨_, rfl, fun D H h => h⟩
  · exact ⟨_, rfl, fun D H h => h⟩
  · exact ⟨_, rfl, fun D H h => h⟩
  · exact ⟨_, rfl, fun D H h => h⟩
  · exact ⟨_, rfl, fun D H h => h⟩
  · exact ⟨_, rfl, fun D H h => h⟩
  · exact ⟨_, rfl, fun D H h => h⟩
  · exact ⟨_, rfl, fun D H h => h⟩
  · exact ⟨_, rfl, fun D H h => h⟩
  · exact ⟨_, rfl, fun D H h => h⟩
set_option maxRecDepth 100000 in
set_option maxHeartbeats 4000000 in
theorem z9_16 {cy : Nat → ClassId} {h0 : Nat} {q : Nat → Nat} {h1 : Nat} {r : Nat → Nat} {j d b : Nat} : ∀ k, 16 ≤ k → k < 32 → ∃ e : va_E, (w9 cy h0 q)[plc k]? = some (adz h0 q h1 r j d b k, e) ∧ ∀ (D : va_G) (H : Heap), va_at D wCl (adz h0 q h1 r j d b k, e) H → va_at D wCl (adz h0 q h1 r j d b k, sh (adz h0 q h1 r j d b) cy k (sg0 k)) H := by
  intro k hk1 hk2
  rcases (show k = 16 ∨ k = 17 ∨ k = 18 ∨ k = 19 ∨ k = 20 ∨ k = 21 ∨ k = 22 ∨ k = 23 ∨ k = 24 ∨ k = 25 ∨ k = 26 ∨ k = 27 ∨ k = 28 ∨ k = 29 ∨ k = 30 ∨ k = 31 by omega) with rfl | rfl | rfl | rfl | rfl | rfl | rfl | rfl | rfl | rfl | rfl | rfl | rfl | rfl | rfl | rfl
  · exact ⟨_, rfl, fun D H h => h⟩
  · exact ⟨_, rfl, fun D H h => h⟩
  · exact ⟨_, rfl, fun D H h => h⟩
  · exact ⟨_, rfl, fun D H h => h⟩
  · exact ⟨_, rfl, fun D H h => h⟩
  · exact ⟨_, rfl, fun D H h => h⟩
  · exact ⟨_, rfl, fun D H h => h⟩
  · exact ⟨_, rfl, fun D H h => h⟩
  · exact ⟨_, rfl, fun D H h => h⟩
  · exact ⟨_, rfl, fun D H h => h⟩
  · exact ⟨_, rfl, fun D H h => h⟩
  · exact ⟨_, rfl, fun D H h => h⟩
  · exact ⟨_, rfl, fun D H h => h⟩
  · exact ⟨_, rfl, fun D H h => h⟩
  · exact ⟨_, rfl, fun D H h => h⟩
  · exact ⟨_, rfl, fun D H h => h⟩
set_option maxRecDepth 100000 in
set_option maxHeartbeats 4000000 in
theorem z9_32 {cy : Nat → ClassId} {h0 : Nat} {q : Nat → Nat} {h1 : Nat} {r : Nat → Nat} {j d b : Nat} : ∀ k, 32 ≤ k → k < 48 → ∃ e : va_E, (w9 cy h0 q)[plc k]? = some (adz h0 q h1 r j d b k, e) ∧ ∀ (D : va_G) (H : Heap), va_at D wCl (adz h0 q h1 r j d b k, e) H → va_at D wCl (adz h0 q h1 r j d b k, sh (adz h0 q h1 r j d b) cy k (sg0 k)) H := by
  intro k hk1 hk2
  rcases (show k = 32 ∨ k = 33 ∨ k = 34 ∨ k = 35 ∨ k = 36 ∨ k = 37 ∨ k = 38 ∨ k = 39 ∨ k = 40 ∨ k = 41 ∨ k = 42 ∨ k = 43 ∨ k = 44 ∨ k = 45 ∨ k = 46 ∨ k = 47 by omega) with rfl | rfl | rfl | rfl | rfl | rfl | rfl | rfl | rfl | rfl | rfl | rfl | rfl | rfl | rfl | rfl
  · exact ⟨_, rfl, fun D H h => h⟩
  · exact ⟨_, rfl, fun D H h => h⟩
  · exact ⟨_, rfl, fun D H h => h⟩
  · exact ⟨_, rfl, fun D H h => h⟩
  · exact ⟨_, rfl, fun D H h => h⟩
  · exact ⟨_, rfl, fun D H h => h⟩
  · exact ⟨_, rfl, fun D H h => h⟩
  · exact ⟨_, rfl, fun D H h => h⟩
  · exact ⟨_, rfl, fun D H h => h⟩
  · exact ⟨_, rfl, fun D H h => h⟩
  · exact ⟨_, rfl, fun D H h => h⟩
  · exact ⟨_, rfl, fun D H h => h⟩
  · exact ⟨_, rfl, fun D H h => h⟩
  · exact ⟨_, rfl, fun D H h => h⟩
  · exact ⟨_, rfl, fun D H h => h⟩
  · exact ⟨_, rfl, fun D H h => h⟩
set_option maxRecDepth 100000 in
set_option maxHeartbeats 4000000 in
theorem z9_48 {cy : Nat → ClassId} {h0 : Nat} {q : Nat → Nat} {h1 : Nat} {r : Nat → Nat} {j d b : Nat} : ∀ k, 48 ≤ k → k < 64 → ∃ e : va_E, (w9 cy h0 q)[plc k]? = some (adz h0 q h1 r j d b k, e) ∧ ∀ (D : va_G) (H : Heap), va_at D wCl (adz h0 q h1 r j d b k, e) H → va_at D wCl (adz h0 q h1 r j d b k, sh (adz h0 q h1 r j d b) cy k (sg0 k)) H := by
  intro k hk1 hk2
  rcases (show k = 48 ∨ k = 49 ∨ k = 50 ∨ k = 51 ∨ k = 52 ∨ k = 53 ∨ k = 54 ∨ k = 55 ∨ k = 56 ∨ k = 57 ∨ k = 58 ∨ k = 59 ∨ k = 60 ∨ k = 61 ∨ k = 62 ∨ k = 63 by omega) with rfl | rfl | rfl | rfl | rfl | rfl | rfl | rfl | rfl | rfl | rfl | rfl | rfl | rfl | rfl | rfl
  · exact ⟨_, rfl, fun D H h => h⟩
  · exact ⟨_, rfl, fun D H h => h⟩
  · exact ⟨_, rfl, fun D H h => h⟩
  · exact ⟨_, rfl, fun D H h => h⟩
  · exact ⟨_, rfl, fun D H h => h⟩
  · exact ⟨_, rfl, fun D H h => h⟩
  · exact ⟨_, rfl, fun D H h => h⟩
  · exact ⟨_, rfl, fun D H h => h⟩
  · exact ⟨_, rfl, fun D H h => h⟩
  · exact ⟨_, rfl, fun D H h => h⟩
  · exact ⟨_, rfl, fun D H h => h⟩
  · exact ⟨_, rfl, fun D H h => h⟩
  · exact ⟨_, rfl, fun D H h => h⟩
  · exact ⟨_, rfl, fun D H h => h⟩
  · exact ⟨_, rfl, fun D H h => h⟩
  · exact ⟨_, rfl, fun D H h => h⟩
set_option maxRecDepth 100000 in
set_option maxHeartbeats 4000000 in
theorem z9_64 {cy : Nat → ClassId} {h0 : Nat} {q : Nat → Nat} {h1 : Nat} {r : Nat → Nat} {j d b : Nat} : ∀ k, 64 ≤ k → k < 80 → ∃ e : va_E, (w9 cy h0 q)[plc k]? = some (adz h0 q h1 r j d b k, e) ∧ ∀ (D : va_G) (H : Heap), va_at D wCl (adz h0 q h1 r j d b k, e) H → va_at D wCl (adz h0 q h1 r j d b k, sh (adz h0 q h1 r j d b) cy k (sg0 k)) H := by
  intro k hk1 hk2
  rcases (show k = 64 ∨ k = 65 ∨ k = 66 ∨ k = 67 ∨ k = 68 ∨ k = 69 ∨ k = 70 ∨ k = 71 ∨ k = 72 ∨ k = 73 ∨ k = 74 ∨ k = 75 ∨ k = 76 ∨ k = 77 ∨ k = 78 ∨ k = 79 by omega) with rfl | rfl | rfl | rfl | rfl | rfl | rfl | rfl | rfl | rfl | rfl | rfl | rfl | rfl | rfl | rfl
  · exact ⟨_, rfl, fun D H h => h⟩
  · exact ⟨_, rfl, fun D H h => h⟩
  · exact ⟨_, rfl, fun D H h => h⟩
  · exact ⟨_, rfl, fun D H h => h⟩
  · exact ⟨_, rfl, fun D H h => h⟩
  · exact ⟨_, rfl, fun D H h => h⟩
  · exact ⟨_, rfl, fun D H h => h⟩
  · exact ⟨_, rfl, fun D H h => h⟩
  · exact ⟨_, rfl, fun D H h => h⟩
  · exact ⟨_, rfl, fun D H h => h⟩
  · exact ⟨_, rfl, fun D H h => h⟩
  · exact ⟨_, rfl, fun D H h => h⟩
  · exact ⟨_, rfl, fun D H h => h⟩
  · exact ⟨_, rfl, fun D H h => h⟩
  · exact ⟨_, rfl, fun D H h => h⟩
  · exact ⟨_, rfl, fun D H h => h⟩
set_option maxRecDepth 100000 in
set_option maxHeartbeats 4000000 in
theorem z9_80 {cy : Nat → ClassId} {h0 : Nat} {q : Nat → Nat} {h1 : Nat} {r : Nat → Nat} {j d b : Nat} : ∀ k, 80 ≤ k → k < 96 → ∃ e : va_E, (w9 cy h0 q)[plc k]? = some (adz h0 q h1 r j d b k, e) ∧ ∀ (D : va_G) (H : Heap), va_at D wCl (adz h0 q h1 r j d b k, e) H → va_at D wCl (adz h0 q h1 r j d b k, sh (adz h0 q h1 r j d b) cy k (sg0 k)) H := by
  intro k hk1 hk2
  rcases (show k = 80 ∨ k = 81 ∨ k = 82 ∨ k = 83 ∨ k = 84 ∨ k = 85 ∨ k = 86 ∨ k = 87 ∨ k = 88 ∨ k = 89 ∨ k = 90 ∨ k = 91 ∨ k = 92 ∨ k = 93 ∨ k = 94 ∨ k = 95 by omega) with rfl | rfl | rfl | rfl | rfl | rfl | rfl | rfl | rfl | rfl | rfl | rfl | rfl | rfl | rfl | rfl
  · exact ⟨_, rfl, fun D H h => h⟩
  · exact ⟨_, rfl, fun D H h => h⟩
  · refine ⟨_, rfl, fun D H h => ?_⟩
    rw [sh_82]
    refine at_q h (fun i hi => ?_)
    rcases (show i = 0 ∨ i = 1 ∨ i = 2 ∨ i = 3 ∨ i = 4 ∨ i = 5 ∨ i = 6 ∨ i = 7 by omega) with rfl | rfl | rfl | rfl | rfl | rfl | rfl | rfl
    · rfl
    · rfl
    · rfl
    · rfl
    · rfl
    · rfl
    · rfl
    · rfl
  · exact ⟨_, rfl, fun D H h => h⟩
  · exact ⟨_, rfl, fun D H h => h⟩
  · exact ⟨_, rfl, fun D H h => h⟩
  · exact ⟨_, rfl, fun D H h => h⟩
  · refine ⟨_, rfl, fun D H h => ?_⟩
    rw [sh_87]
    refine at_q h (fun i hi => ?_)
    rcases (show i = 0 ∨ i = 1 ∨ i = 2 ∨ i = 3 ∨ i = 4 ∨ i = 5 ∨ i = 6 ∨ i = 7 ∨ i = 8 ∨ i = 9 by omega) with rfl | rfl | rfl | rfl | rfl | rfl | rfl | rfl | rfl | rfl
    · rfl
    · rfl
    · rfl
    · rfl
    · rfl
    · rfl
    · rfl
    · rfl
    · rfl
    · rfl
  · exact ⟨_, rfl, fun D H h => h⟩
  · exact ⟨_, rfl, fun D H h => h⟩
  · exact ⟨_, rfl, fun D H h => h⟩
  · exact ⟨_, rfl, fun D H h => h⟩
  · exact ⟨_, rfl, fun D H h => h⟩
  · exact ⟨_, rfl, fun D H h => h⟩
  · exact ⟨_, rfl, fun D H h => h⟩
  · exact ⟨_, rfl, fun D H h => h⟩
set_option maxRecDepth 100000 in
set_option maxHeartbeats 4000000 in
theorem z9_96 {cy : Nat → ClassId} {h0 : Nat} {q : Nat → Nat} {h1 : Nat} {r : Nat → Nat} {j d b : Nat} : ∀ k, 96 ≤ k → k < 112 → ∃ e : va_E, (w9 cy h0 q)[plc k]? = some (adz h0 q h1 r j d b k, e) ∧ ∀ (D : va_G) (H : Heap), va_at D wCl (adz h0 q h1 r j d b k, e) H → va_at D wCl (adz h0 q h1 r j d b k, sh (adz h0 q h1 r j d b) cy k (sg0 k)) H := by
  intro k hk1 hk2
  rcases (show k = 96 ∨ k = 97 ∨ k = 98 ∨ k = 99 ∨ k = 100 ∨ k = 101 ∨ k = 102 ∨ k = 103 ∨ k = 104 ∨ k = 105 ∨ k = 106 ∨ k = 107 ∨ k = 108 ∨ k = 109 ∨ k = 110 ∨ k = 111 by omega) with rfl | rfl | rfl | rfl | rfl | rfl | rfl | rfl | rfl | rfl | rfl | rfl | rfl | rfl | rfl | rfl
  · exact ⟨_, rfl, fun D H h => h⟩
  · exact ⟨_, rfl, fun D H h => h⟩
  · exact ⟨_, rfl, fun D H h => h⟩
  · refine ⟨_, rfl, fun D H h => ?_⟩
    rw [sh_99]
    refine at_q h (fun i hi => ?_)
    rcases (show i = 0 ∨ i = 1 ∨ i = 2 ∨ i = 3 by omega) with rfl | rfl | rfl | rfl
    · rfl
    · rfl
    · rfl
    · rfl
  · exact ⟨_, rfl, fun D H h => h⟩
  · exact ⟨_, rfl, fun D H h => h⟩
  · exact ⟨_, rfl, fun D H h => h⟩
  · exact ⟨_, rfl, fun D H h => h⟩
  · exact ⟨_, rfl, fun D H h => h⟩
  · refine ⟨_, rfl, fun D H h => ?_⟩
    rw [sh_105]
    refine at_q h (fun i hi => ?_)
    rcases (show i = 0 ∨ i = 1 ∨ i = 2 ∨ i = 3 ∨ i = 4 ∨ i = 5 ∨ i = 6 by omega) with rfl | rfl | rfl | rfl | rfl | rfl | rfl
    · rfl
    · rfl
    · rfl
    · rfl
    · rfl
    · rfl
    · rfl
  · exact ⟨_, rfl, fun D H h => h⟩
  · exact ⟨_, rfl, fun D H h => h⟩
  · exact ⟨_, rfl, fun D H h => h⟩
  · exact ⟨_, rfl, fun D H h => h⟩
  · exact ⟨_, rfl, fun D H h => h⟩
  · exact ⟨_, rfl, fun D H h => h⟩
set_option maxRecDepth 100000 in
set_option maxHeartbeats 4000000 in
theorem z9_112 {cy : Nat → ClassId} {h0 : Nat} {q : Nat → Nat} {h1 : Nat} {r : Nat → Nat} {j d b : Nat} : ∀ k, 112 ≤ k → k < 124 → ∃ e : va_E, (w9 cy h0 q)[plc k]? = some (adz h0 q h1 r j d b k, e) ∧ ∀ (D : va_G) (H : Heap), va_at D wCl (adz h0 q h1 r j d b k, e) H → va_at D wCl (adz h0 q h1 r j d b k, sh (adz h0 q h1 r j d b) cy k (sg0 k)) H := by
  intro k hk1 hk2
  rcases (show k = 112 ∨ k = 113 ∨ k = 114 ∨ k = 115 ∨ k = 116 ∨ k = 117 ∨ k = 118 ∨ k = 119 ∨ k = 120 ∨ k = 121 ∨ k = 122 ∨ k = 123 by omega) with rfl | rfl | rfl | rfl | rfl | rfl | rfl | rfl | rfl | rfl | rfl | rfl
  · exact ⟨_, rfl, fun D H h => h⟩
  · exact ⟨_, rfl, fun D H h => h⟩
  · exact ⟨_, rfl, fun D H h => h⟩
  · exact ⟨_, rfl, fun D H h => h⟩
  · exact ⟨_, rfl, fun D H h => h⟩
  · exact ⟨_, rfl, fun D H h => h⟩
  · exact ⟨_, rfl, fun D H h => h⟩
  · exact ⟨_, rfl, fun D H h => h⟩
  · exact ⟨_, rfl, fun D H h => h⟩
  · exact ⟨_, rfl, fun D H h => h⟩
  · exact ⟨_, rfl, fun D H h => h⟩
  · exact ⟨_, rfl, fun D H h => h⟩
set_option maxRecDepth 100000 in
set_option maxHeartbeats 4000000 in
theorem z10_0 {cy : Nat → ClassId} {h0 : Nat} {q : Nat → Nat} {h1 : Nat} {r : Nat → Nat} {j d b : Nat} : ∀ k, 0 ≤ k → k < 16 → ∃ e : va_E, (w10 cy h1 r)[k]? = some (adz h0 q h1 r j d b (124 + k), e) ∧ ∀ (D : va_G) (H : Heap), va_at D wCl (adz h0 q h1 r j d b (124 + k), e) H → va_at D wCl (adz h0 q h1 r j d b (124 + k), sh (adz h0 q h1 r j d b) cy (124 + k) (sg0 (124 + k))) H := by
  intro k hk1 hk2
  rcases (show k = 0 ∨ k = 1 ∨ k = 2 ∨ k = 3 ∨ k = 4 ∨ k = 5 ∨ k = 6 ∨ k = 7 ∨ k = 8 ∨ k = 9 ∨ k = 10 ∨ k = 11 ∨ k = 12 ∨ k = 13 ∨ k = 14 ∨ k = 15 by omega) with rfl | rfl | rfl | rfl | rfl | rfl | rfl | rfl | rfl | rfl | rfl | rfl | rfl | rfl | rfl | rfl
  · exact ⟨_, rfl, fun D H h => h⟩
  · exact ⟨_, rfl, fun D H h => h⟩
  · exact ⟨_, rfl, fun D H h => h⟩
  · exact ⟨_, rfl, fun D H h => h⟩
  · exact ⟨_, rfl, fun D H h => h⟩
  · exact ⟨_, rfl, fun D H h => h⟩
  · exact ⟨_, rfl, fun D H h => h⟩
  · exact ⟨_, rfl, fun D H h => h⟩
  · exact ⟨_, rfl, fun D H h => h⟩
  · exact ⟨_, rfl, fun D H h => h⟩
  · exact ⟨_, rfl, fun D H h => h⟩
  · exact ⟨_, rfl, fun D H h => h⟩
  · exact ⟨_, rfl, fun D H h => h⟩
  · exact ⟨_, rfl, fun D H h => h⟩
  · exact ⟨_, rfl, fun D H h => h⟩
  · exact ⟨_, rfl, fun D H h => h⟩
set_option maxRecDepth 100000 in
set_option maxHeartbeats 4000000 in
theorem z10_16 {cy : Nat → ClassId} {h0 : Nat} {q : Nat → Nat} {h1 : Nat} {r : Nat → Nat} {j d b : Nat} : ∀ k, 16 ≤ k → k < 31 → ∃ e : va_E, (w10 cy h1 r)[k]? = some (adz h0 q h1 r j d b (124 + k), e) ∧ ∀ (D : va_G) (H : Heap), va_at D wCl (adz h0 q h1 r j d b (124 + k), e) H → va_at D wCl (adz h0 q h1 r j d b (124 + k), sh (adz h0 q h1 r j d b) cy (124 + k) (sg0 (124 + k))) H := by
  intro k hk1 hk2
  rcases (show k = 16 ∨ k = 17 ∨ k = 18 ∨ k = 19 ∨ k = 20 ∨ k = 21 ∨ k = 22 ∨ k = 23 ∨ k = 24 ∨ k = 25 ∨ k = 26 ∨ k = 27 ∨ k = 28 ∨ k = 29 ∨ k = 30 by omega) with rfl | rfl | rfl | rfl | rfl | rfl | rfl | rfl | rfl | rfl | rfl | rfl | rfl | rfl | rfl
  · exact ⟨_, rfl, fun D H h => h⟩
  · exact ⟨_, rfl, fun D H h => h⟩
  · exact ⟨_, rfl, fun D H h => h⟩
  · exact ⟨_, rfl, fun D H h => h⟩
  · exact ⟨_, rfl, fun D H h => h⟩
  · exact ⟨_, rfl, fun D H h => h⟩
  · exact ⟨_, rfl, fun D H h => h⟩
  · exact ⟨_, rfl, fun D H h => h⟩
  · exact ⟨_, rfl, fun D H h => h⟩
  · exact ⟨_, rfl, fun D H h => h⟩
  · exact ⟨_, rfl, fun D H h => h⟩
  · exact ⟨_, rfl, fun D H h => h⟩
  · exact ⟨_, rfl, fun D H h => h⟩
  · exact ⟨_, rfl, fun D H h => h⟩
  · exact ⟨_, rfl, fun D H h => h⟩
theorem wz_at {cy : Nat → ClassId} {h0 : Nat} {q : Nat → Nat} {h1 : Nat} {r : Nat → Nat} {j d b : Nat} {k : Nat} (hk : k < 157) : ∃ e : va_E, (wz cy h0 q h1 r j d)[plc k]? = some (adz h0 q h1 r j d b k, e) ∧ ∀ (D : va_G) (H : Heap), va_at D wCl (adz h0 q h1 r j d b k, e) H → va_at D wCl (adz h0 q h1 r j d b k, sh (adz h0 q h1 r j d b) cy k (sg0 k)) H := by
  have l9 := w9_len cy h0 q
  have l10 := w10_len cy h1 r
  have lA : (w9 cy h0 q ++ w10 cy h1 r).length = 155 := by rw [List.length_append, l9, l10]
  unfold wz
  by_cases h124 : k < 124
  · have hp := plc_lt h124
    rw [List.getElem?_append_left (by rw [List.length_append, lA]; show plc k < 155 + 1; omega), List.getElem?_append_left (by rw [lA]; omega), List.getElem?_append_left (by rw [l9]; omega)]
    by_cases g16 : k < 16
    · exact z9_0 k (by omega) g16
    by_cases g32 : k < 32
    · exact z9_16 k (by omega) g32
    by_cases g48 : k < 48
    · exact z9_32 k (by omega) g48
    by_cases g64 : k < 64
    · exact z9_48 k (by omega) g64
    by_cases g80 : k < 80
    · exact z9_64 k (by omega) g80
    by_cases g96 : k < 96
    · exact z9_80 k (by omega) g96
    by_cases g112 : k < 112
    · exact z9_96 k (by omega) g112
    exact z9_112 k (by omega) h124
  rw [plc_ge h124]
  by_cases h155 : k < 155
  · rw [List.getElem?_append_left (by rw [List.length_append, lA]; show k < 155 + 1; omega), List.getElem?_append_left (by rw [lA]; omega), List.getElem?_append_right (by rw [l9]; omega), l9]
    obtain ⟨i, rfl⟩ : ∃ i, k = 124 + i := ⟨k - 124, by omega⟩
    rw [Nat.add_sub_cancel_left]
    by_cases g16 : i < 16
    · exact z10_0 i (by omega) g16
    exact z10_16 i (by omega) (by omega)
  rcases (show k = 155 ∨ k = 156 by omega) with rfl | rfl
  · rw [List.getElem?_append_left (by rw [List.length_append, lA]; show 155 < 155 + 1; omega), List.getElem?_append_right (by rw [lA]; omega), lA]
    refine ⟨_, rfl, fun D H h => ?_⟩
    rw [sh_155]
    refine at_l h (fun i hi => ?_)
    rcases (show i = 0 by omega) with rfl
    rfl
  · rw [List.getElem?_append_right (by rw [List.length_append, lA]; show 155 + 1 ≤ 156; omega), List.length_append, lA]
    refine ⟨_, rfl, fun D H h => ?_⟩
    rw [sh_156]
    refine at_d h (fun i hi => ?_)
    rcases (show i = 0 by omega) with rfl
    rfl
theorem wz_P {cy : Nat → ClassId} {h0 : Nat} {q : Nat → Nat} {h1 : Nat} {r : Nat → Nat} {j d b : Nat} {D : va_G} {H : Heap} (hP : va_P D wCl (wz cy h0 q h1 r j d) H) : va_P D wCl (wd (adz h0 q h1 r j d b) cy sg0) H := by
  intro k x hk
  obtain ⟨hk1, rfl⟩ := wd_lt hk
  obtain ⟨e, h1, h2⟩ := wz_at (cy := cy) (h0 := h0) (q := q) (h1 := h1) (r := r) (j := j) (d := d) (b := b) hk1
  exact h2 D H (hP _ _ h1)
theorem wz_I {cy : Nat → ClassId} {h0 : Nat} {q : Nat → Nat} {h1 : Nat} {r : Nat → Nat} {j d b : Nat} {A : Nat → Prop} (hD : va_D A (wz cy h0 q h1 r j d)) : Inj (adz h0 q h1 r j d b) ∧ ∀ c, c < NC → A (adz h0 q h1 r j d b c) := by
  refine ⟨fun x y hx hy h => ?_, fun c hc => ?_⟩
  · obtain ⟨e1, h2, -⟩ := wz_at (cy := cy) (h0 := h0) (q := q) (h1 := h1) (r := r) (j := j) (d := d) (b := b) hx
    obtain ⟨e2, h3, -⟩ := wz_at (cy := cy) (h0 := h0) (q := q) (h1 := h1) (r := r) (j := j) (d := d) (b := b) hy
    exact plc_inj (hD.1 _ _ _ _ h2 h3 h)
  · obtain ⟨e1, h2, -⟩ := wz_at (cy := cy) (h0 := h0) (q := q) (h1 := h1) (r := r) (j := j) (d := d) (b := b) hc
    exact hD.2 _ _ h2
