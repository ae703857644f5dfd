/-! PURE, 38: the bits of twenty counted -/
theorem and_sp {b W m M : Nat} (hb : b < 256) (hm : m < 256) : (b + 256 * W) &&& (m + 256 * M) = (b &&& m) + 256 * (W &&& M) := by
  have e1 : b + 256 * W = 2 ^ 8 * W + b := by omega
  have e2 : m + 256 * M = 2 ^ 8 * M + m := by omega
  have h3 : b &&& m < 2 ^ 8 := Nat.lt_of_le_of_lt Nat.and_le_left hb
  have e3 : (b &&& m) + 256 * (W &&& M) = 2 ^ 8 * (W &&& M) + (b &&& m) := by omega
  rw [e1, e2, e3]
  apply Nat.eq_of_testBit_eq
  intro i
  rw [Nat.testBit_and, Nat.testBit_two_pow_mul_add W hb, Nat.testBit_two_pow_mul_add M hm, Nat.testBit_two_pow_mul_add _ h3]
  by_cases c : i < 8
  · rw [if_pos c, if_pos c, if_pos c, Nat.testBit_and]
  · rw [if_neg c, if_neg c, if_neg c, Nat.testBit_and]
def s6 (b : Nat) : Nat := b - ((b / 2) &&& 85)
def s7 (c : Nat) : Nat := (c &&& 51) + ((c / 4) &&& 51)
def s8 (d : Nat) : Nat := (d + d / 16) &&& 15
theorem by_6 : ∀ b : Nat, b < 256 → ((b / 2) &&& 85) ≤ b ∧ s6 b < 256 ∧ ((b / 2 + 128 * 0) &&& 85) = (b / 2) &&& 85 ∧ ((b / 2 + 128 * 1) &&& 85) = (b / 2) &&& 85 := by decide +kernel
theorem by_6h : ∀ b : Nat, b < 16 → ((b / 2) &&& 21845) = (b / 2) &&& 85 := by decide +kernel
theorem by_7 : ∀ b : Nat, b < 256 → ((b / 4 + 64 * 0) &&& 51) = (b / 4) &&& 51 ∧ ((b / 4 + 64 * 1) &&& 51) = (b / 4) &&& 51 ∧ ((b / 4 + 64 * 2) &&& 51) = (b / 4) &&& 51 ∧ ((b / 4 + 64 * 3) &&& 51) = (b / 4) &&& 51 ∧ (b &&& 13107) = b &&& 51 ∧ ((b / 4) &&& 13107) = (b / 4) &&& 51 := by decide +kernel
theorem by_8 : ∀ d : Nat, d < 69 → ((d + d / 16 + 16 * 0) &&& 15) = s8 d ∧ ((d + d / 16 + 16 * 1) &&& 15) = s8 d ∧ ((d + d / 16 + 16 * 2) &&& 15) = s8 d ∧ ((d + d / 16 + 16 * 3) &&& 15) = s8 d ∧ ((d + d / 16 + 16 * 4) &&& 15) = s8 d ∧ ((d + d / 16) &&& 3855) = s8 d := by decide +kernel
theorem by_p : ∀ b : Nat, b < 256 → s7 (s6 b) < 69 ∧ s7 (s6 b) % 16 ≤ 4 ∧ s8 (s7 (s6 b)) = b % 2 + b / 2 % 2 + b / 4 % 2 + b / 8 % 2 + b / 16 % 2 + b / 32 % 2 + b / 64 % 2 + b / 128 % 2 := by decide +kernel
theorem pop6 {b0 b1 b2 : Nat} (h0 : b0 < 256) (h1 : b1 < 256) (h2 : b2 < 16) : (b0 + 256 * (b1 + 256 * b2)) - (((b0 + 256 * (b1 + 256 * b2)) / 2) &&& 1431655765) = s6 b0 + 256 * (s6 b1 + 256 * s6 b2) := by
  have e : (b0 + 256 * (b1 + 256 * b2)) / 2 = (b0 / 2 + 128 * (b1 % 2)) + 256 * ((b1 / 2 + 128 * (b2 % 2)) + 256 * (b2 / 2)) := by omega
  rw [e, show (1431655765 : Nat) = 85 + 256 * (85 + 256 * 21845) from rfl, and_sp (by omega) (by omega), and_sp (by omega) (by omega), by_6h b2 h2]
  obtain ⟨g0, -, g1, g2⟩ := by_6 b0 h0
  obtain ⟨k0, -, k1, k2⟩ := by_6 b1 h1
  obtain ⟨l0, -, l1, l2⟩ := by_6 b2 (by omega)
  have q1 : ((b0 / 2 + 128 * (b1 % 2)) &&& 85) = (b0 / 2) &&& 85 := by
    rcases Nat.mod_two_eq_zero_or_one b1 with c | c <;> rw [c]
    · exact g1
    · exact g2
  have q2 : ((b1 / 2 + 128 * (b2 % 2)) &&& 85) = (b1 / 2) &&& 85 := by
    rcases Nat.mod_two_eq_zero_or_one b2 with c | c <;> rw [c]
    · exact k1
    · exact k2
  rw [q1, q2]
  unfold s6
  omega
theorem m4 (x : Nat) : x % 4 = 0 ∨ x % 4 = 1 ∨ x % 4 = 2 ∨ x % 4 = 3 := by omega
theorem by_7m {b : Nat} (h : b < 256) (x : Nat) : ((b / 4 + 64 * (x % 4)) &&& 51) = (b / 4) &&& 51 := by
  obtain ⟨g0, g1, g2, g3, -⟩ := by_7 b h
  rcases m4 x with c | c | c | c <;> rw [c]
  · exact g0
  · exact g1
  · exact g2
  · exact g3
theorem pop7 {b0 b1 b2 : Nat} (h0 : b0 < 256) (h1 : b1 < 256) (h2 : b2 < 256) : ((b0 + 256 * (b1 + 256 * b2)) &&& 858993459) + (((b0 + 256 * (b1 + 256 * b2)) / 4) &&& 858993459) = s7 b0 + 256 * (s7 b1 + 256 * s7 b2) := by
  have e : (b0 + 256 * (b1 + 256 * b2)) / 4 = (b0 / 4 + 64 * (b1 % 4)) + 256 * ((b1 / 4 + 64 * (b2 % 4)) + 256 * (b2 / 4)) := by omega
  obtain ⟨-, -, -, -, l1, l2⟩ := by_7 b2 h2
  rw [e, show (858993459 : Nat) = 51 + 256 * (51 + 256 * 13107) from rfl, and_sp (by omega) (by omega), and_sp (by omega) (by omega), and_sp (by omega) (by omega), and_sp (by omega) (by omega), by_7m h0, by_7m h1, l1, l2]
  unfold s7
  omega
theorem by_8m {d : Nat} (h : d < 69) {x : Nat} (hx : x % 16 ≤ 4) : ((d + d / 16 + 16 * (x % 16)) &&& 15) = s8 d := by
  obtain ⟨g0, g1, g2, g3, g4, -⟩ := by_8 d h
  rcases (show x % 16 = 0 ∨ x % 16 = 1 ∨ x % 16 = 2 ∨ x % 16 = 3 ∨ x % 16 = 4 by omega) with c | c | c | c | c <;> rw [c]
  · exact g0
  · exact g1
  · exact g2
  · exact g3
  · exact g4
theorem pop8 {b0 b1 b2 : Nat} (h0 : b0 < 69) (h1 : b1 < 69) (h2 : b2 < 69) (m1 : b1 % 16 ≤ 4) (m2 : b2 % 16 ≤ 4) : ((b0 + 256 * (b1 + 256 * b2)) + (b0 + 256 * (b1 + 256 * b2)) / 16) &&& 252645135 = s8 b0 + 256 * (s8 b1 + 256 * s8 b2) := by
  have e : (b0 + 256 * (b1 + 256 * b2)) + (b0 + 256 * (b1 + 256 * b2)) / 16 = (b0 + b0 / 16 + 16 * (b1 % 16)) + 256 * ((b1 + b1 / 16 + 16 * (b2 % 16)) + 256 * (b2 + b2 / 16)) := by omega
  rw [e, show (252645135 : Nat) = 15 + 256 * (15 + 256 * 3855) from rfl, and_sp (by omega) (by omega), and_sp (by omega) (by omega), by_8m h0 m1, by_8m h1 m2, (by_8 b2 h2).2.2.2.2.2]
def cN (w : Nat) : Nat → Nat
  | 0 => 0
  | i + 1 => cN w i + w / 2 ^ i % 2
theorem cN_eq {w : Nat} (hw : w < 2 ^ 31) : ∀ i, i ≤ 31 → cntB (nI w) i = nI (cN w i)
  | 0, _ => rfl
  | i + 1, h => by
    show cntB (nI w) i + ((nI w >>> (nI i &&& 31)) &&& (1 : Int32)) = nI (cN w i + w / 2 ^ i % 2)
    rw [cN_eq hw i (by omega), shr_nI hw (by omega), show (1 : Int32) = nI 1 from rfl, nI_and (Nat.lt_of_le_of_lt (Nat.div_le_self _ _) hw) (by omega), Nat.and_one_is_mod]
    exact (Int32.ofNat_add _ _).symm
theorem bit_lo (b W : Nat) : (b + 256 * W) / 1 % 2 = b / 1 % 2 ∧ (b + 256 * W) / 2 % 2 = b / 2 % 2 ∧ (b + 256 * W) / 4 % 2 = b / 4 % 2 ∧ (b + 256 * W) / 8 % 2 = b / 8 % 2 ∧ (b + 256 * W) / 16 % 2 = b / 16 % 2 ∧ (b + 256 * W) / 32 % 2 = b / 32 % 2 ∧ (b + 256 * W) / 64 % 2 = b / 64 % 2 ∧ (b + 256 * W) / 128 % 2 = b / 128 % 2 := ⟨by omega, by omega, by omega, by omega, by omega, by omega, by omega, by omega⟩
theorem div_hi {b : Nat} (h : b < 256) (W e : Nat) : (b + 256 * W) / (256 * e) = W / e := by
  rw [← Nat.div_div_eq_div_mul, show (b + 256 * W) / 256 = W by omega]
theorem bit_hi {b : Nat} (h : b < 256) (W : Nat) : (b + 256 * W) / 256 = W / 1 ∧ (b + 256 * W) / 512 = W / 2 ∧ (b + 256 * W) / 1024 = W / 4 ∧ (b + 256 * W) / 2048 = W / 8 ∧ (b + 256 * W) / 4096 = W / 16 ∧ (b + 256 * W) / 8192 = W / 32 ∧ (b + 256 * W) / 16384 = W / 64 ∧ (b + 256 * W) / 32768 = W / 128 ∧ (b + 256 * W) / 65536 = W / 256 ∧ (b + 256 * W) / 131072 = W / 512 ∧ (b + 256 * W) / 262144 = W / 1024 ∧ (b + 256 * W) / 524288 = W / 2048 := ⟨div_hi h W 1, div_hi h W 2, div_hi h W 4, div_hi h W 8, div_hi h W 16, div_hi h W 32, div_hi h W 64, div_hi h W 128, div_hi h W 256, div_hi h W 512, div_hi h W 1024, div_hi h W 2048⟩
theorem bit_z {b : Nat} (h : b < 16) : b / 16 % 2 = 0 ∧ b / 32 % 2 = 0 ∧ b / 64 % 2 = 0 ∧ b / 128 % 2 = 0 := ⟨by omega, by omega, by omega, by omega⟩
theorem cN_20 {b0 b1 b2 : Nat} (h0 : b0 < 256) (h1 : b1 < 256) (h2 : b2 < 16) : cN (b0 + 256 * (b1 + 256 * b2)) 20 = s8 (s7 (s6 b0)) + s8 (s7 (s6 b1)) + s8 (s7 (s6 b2)) := by
  obtain ⟨f0, f1, f2, f3, f4, f5, f6, f7⟩ := bit_lo b0 (b1 + 256 * b2)
  obtain ⟨k0, k1, k2, k3, k4, k5, k6, k7, k8, k9, k10, k11⟩ := bit_hi h0 (b1 + 256 * b2)
  obtain ⟨l0, l1, l2, l3, l4, l5, l6, l7⟩ := bit_lo b1 b2
  obtain ⟨m0, m1, m2, m3, m4, m5, m6, m7, m8, m9, m10, m11⟩ := bit_hi h1 b2
  obtain ⟨z0, z1, z2, z3⟩ := bit_z h2
  rw [(by_p b0 h0).2.2, (by_p b1 h1).2.2, (by_p b2 (by omega)).2.2, z0, z1, z2, z3]
  simp only [cN, Nat.reducePow]
  rw [f0, f1, f2, f3, f4, f5, f6, f7, k0, k1, k2, k3, k4, k5, k6, k7, k8, k9, k10, k11, l0, l1, l2, l3, l4, l5, l6, l7, m0, m1, m2, m3]
  simp only [Nat.div_one, Nat.zero_add, Nat.add_zero, Nat.add_assoc]
