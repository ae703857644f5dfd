/-! PURE, 38b: the class's way of counting bits -/
theorem nI_sub {a b : Nat} (h : b ≤ a) : nI a - nI b = nI (a - b) := by
  have e : nI a = nI (a - b) + nI b := by rw [nI_add, Nat.sub_add_cancel h]
  rw [e, Int32.add_sub_cancel]
theorem st6 {w : Nat} (hw : w < 2 ^ 31) : nI w - ((((nI w).toUInt32 >>> ((1 : Int32).toUInt32 &&& Int32.toUInt32 31)).toInt32) &&& (1431655765 : Int32)) = nI (w - ((w / 2) &&& 1431655765)) := by
  rw [show ((nI w).toUInt32 >>> ((1 : Int32).toUInt32 &&& Int32.toUInt32 31)).toInt32 = nI (w / 2) from ushr_nI (n := 1) (by omega) (by omega), show (1431655765 : Int32) = nI 1431655765 from rfl, nI_and (by omega) (by omega), nI_sub (Nat.le_trans Nat.and_le_left (Nat.div_le_self _ _))]
theorem st7 {w : Nat} (hw : w < 2 ^ 31) : (nI w &&& (858993459 : Int32)) + (((nI w).toUInt32 >>> ((2 : Int32).toUInt32 &&& Int32.toUInt32 31)).toInt32 &&& (858993459 : Int32)) = nI ((w &&& 858993459) + ((w / 4) &&& 858993459)) := by
  rw [show ((nI w).toUInt32 >>> ((2 : Int32).toUInt32 &&& Int32.toUInt32 31)).toInt32 = nI (w / 4) from ushr_nI (n := 2) (by omega) (by omega), show (858993459 : Int32) = nI 858993459 from rfl, nI_and (by omega) (by omega), nI_and (by omega) (by omega), nI_add]
theorem st8 {w : Nat} (hw : w < 2 ^ 30) : (nI w + ((nI w).toUInt32 >>> ((4 : Int32).toUInt32 &&& Int32.toUInt32 31)).toInt32) &&& (252645135 : Int32) = nI ((w + w / 16) &&& 252645135) := by
  rw [show ((nI w).toUInt32 >>> ((4 : Int32).toUInt32 &&& Int32.toUInt32 31)).toInt32 = nI (w / 16) from ushr_nI (n := 4) (by omega) (by omega), nI_add, show (252645135 : Int32) = nI 252645135 from rfl, nI_and (by omega) (by omega)]
theorem st9 {w : Nat} (hw : w < 2 ^ 31) : nI w + ((nI w).toUInt32 >>> ((8 : Int32).toUInt32 &&& Int32.toUInt32 31)).toInt32 = nI (w + w / 256) := by
  rw [show ((nI w).toUInt32 >>> ((8 : Int32).toUInt32 &&& Int32.toUInt32 31)).toInt32 = nI (w / 256) from ushr_nI (n := 8) (by omega) (by omega), nI_add]
theorem st10 {w : Nat} (hw : w < 2 ^ 31) : nI w + ((nI w).toUInt32 >>> ((16 : Int32).toUInt32 &&& Int32.toUInt32 31)).toInt32 = nI (w + w / 65536) := by
  rw [show ((nI w).toUInt32 >>> ((16 : Int32).toUInt32 &&& Int32.toUInt32 31)).toInt32 = nI (w / 65536) from ushr_nI (n := 16) (by omega) (by omega), nI_add]
theorem st11 {w : Nat} (hw : w < 2 ^ 31) : nI w &&& (63 : Int32) = nI (w % 64) := by
  rw [show (63 : Int32) = nI 63 from rfl, nI_and hw (by omega), show (63 : Nat) = 2 ^ 6 - 1 from rfl, Nat.and_two_pow_sub_one_eq_mod]
def bcv' (x : Int32) : Int32 := (fun x6 => (fun x7 => (fun x8 => (fun x9 => (fun x10 => x10 &&& (63 : Int32)) (x9 + ((x9.toUInt32 >>> ((16 : Int32).toUInt32 &&& Int32.toUInt32 31)).toInt32))) (x8 + ((x8.toUInt32 >>> ((8 : Int32).toUInt32 &&& Int32.toUInt32 31)).toInt32))) ((x7 + ((x7.toUInt32 >>> ((4 : Int32).toUInt32 &&& Int32.toUInt32 31)).toInt32)) &&& (252645135 : Int32))) ((x6 &&& (858993459 : Int32)) + (((x6.toUInt32 >>> ((2 : Int32).toUInt32 &&& Int32.toUInt32 31)).toInt32) &&& (858993459 : Int32)))) (x - (((x.toUInt32 >>> ((1 : Int32).toUInt32 &&& Int32.toUInt32 31)).toInt32) &&& (1431655765 : Int32)))
theorem by_9 : ∀ b : Nat, b < 256 → s8 (s7 (s6 b)) ≤ 8 := by decide +kernel
theorem lt3 {a b c : Nat} (h0 : a < 256) (h1 : b < 256) (h2 : c < 256) : a + 256 * (b + 256 * c) < 2 ^ 24 := by omega
theorem end3 {a b c : Nat} (h0 : a ≤ 8) (h1 : b ≤ 8) (h2 : c ≤ 8) : (a + 256 * (b + 256 * c) + (a + 256 * (b + 256 * c)) / 256 + (a + 256 * (b + 256 * c) + (a + 256 * (b + 256 * c)) / 256) / 65536) % 64 = a + b + c := by
  rw [show (a + 256 * (b + 256 * c)) / 256 = b + 256 * c by omega, show (a + 256 * (b + 256 * c) + (b + 256 * c)) / 65536 = c by omega]
  omega
theorem end4 {a b c : Nat} (h0 : a ≤ 8) (h1 : b ≤ 8) (h2 : c ≤ 8) : a + 256 * (b + 256 * c) + (a + 256 * (b + 256 * c)) / 256 < 2 ^ 30 := by omega
theorem spl {w : Nat} (hw : w < 1048576) : ∃ b0 b1 b2 : Nat, b0 < 256 ∧ b1 < 256 ∧ b2 < 16 ∧ w = b0 + 256 * (b1 + 256 * b2) := ⟨w % 256, w / 256 % 256, w / 65536, by omega, by omega, by omega, by omega⟩
theorem up31 {w : Nat} (h : w < 2 ^ 24) : w < 2 ^ 30 ∧ w < 2 ^ 31 := ⟨by omega, by omega⟩
theorem up30 {w : Nat} (h : w < 2 ^ 30) : w < 2 ^ 31 := by omega
theorem up30b {w : Nat} (h : w < 2 ^ 30) : w + w / 65536 < 2 ^ 31 := by omega
theorem bcv_20 {w : Nat} (hw : w < 1048576) : bcv (nI w) = cntB (nI w) 20 := by
  obtain ⟨b0, b1, b2, h0, h1, h2, rfl⟩ := spl hw
  have h2' : b2 < 256 := Nat.lt_trans h2 (by decide)
  have u0 := lt3 h0 h1 h2'
  have q := lt3 (by_6 b0 h0).2.1 (by_6 b1 h1).2.1 (by_6 b2 h2').2.1
  have c0 := (by_p b0 h0).1
  have c1 := (by_p b1 h1).1
  have c2 := (by_p b2 h2').1
  have d0 := by_9 b0 h0
  have d1 := by_9 b1 h1
  have d2 := by_9 b2 h2'
  rw [cN_eq (up31 u0).2 20 (by decide), cN_20 h0 h1 h2]
  show bcv' (nI (b0 + 256 * (b1 + 256 * b2))) = _
  unfold bcv'
  rw [st6 (up31 u0).2, pop6 h0 h1 h2]
  dsimp only
  rw [st7 (up31 q).2, pop7 (by_6 b0 h0).2.1 (by_6 b1 h1).2.1 (by_6 b2 h2').2.1]
  rw [st8 (up31 (lt3 (Nat.lt_trans c0 (by decide)) (Nat.lt_trans c1 (by decide)) (Nat.lt_trans c2 (by decide)))).1, pop8 c0 c1 c2 (by_p b1 h1).2.1 (by_p b2 h2').2.1]
  rw [st9 (up31 (lt3 (Nat.lt_of_le_of_lt d0 (by decide)) (Nat.lt_of_le_of_lt d1 (by decide)) (Nat.lt_of_le_of_lt d2 (by decide)))).2]
  rw [st10 (up30 (end4 d0 d1 d2)), st11 (up30b (end4 d0 d1 d2)), end3 d0 d1 d2]
