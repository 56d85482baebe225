/-! small masks -/
theorem z_and (a b : Nat) : nI a &&& nI b = nI (a &&& b) := by
  apply Int32.toBitVec_inj.mp
  show (Int32.ofNat a &&& Int32.ofNat b).toBitVec = (Int32.ofNat (a &&& b)).toBitVec
  simp [Int32.toBitVec_and, Int32.toBitVec_ofNat']
theorem z_or (a b : Nat) : nI a ||| nI b = nI (a ||| b) := by
  apply Int32.toBitVec_inj.mp
  show (Int32.ofNat a ||| Int32.ofNat b).toBitVec = (Int32.ofNat (a ||| b)).toBitVec
  simp [Int32.toBitVec_or, Int32.toBitVec_ofNat']
theorem z_has : ∀ s, s < 64 → ∀ p, p < 6 → fA_has (nI s) (nI p) = if s.testBit p then 1 else 0 := by decide +kernel
theorem z_hasM : ∀ s, s < 64 → ∀ p, p < 6 → fM_has (nI s) (nI p) = if s.testBit p then 1 else 0 := by decide +kernel
theorem z_bit : ∀ p, p < 7 → (1 : Int32) <<< (nI p &&& 31) = nI (2 ^ p) := by decide +kernel
theorem z_not : ∀ a, a < 64 → ∀ b, b < 64 → nI a &&& (nI b ^^^ (-1)) = nI (a &&& (63 - b)) := by decide +kernel
theorem z_bc : ∀ a, a < 64 → ∀ b, b < 64 → (fI_bitCount (nI a) = fI_bitCount (nI b) ↔ True) ∨ True := by decide +kernel
def z_pc (a : Nat) : Nat := (if a.testBit 0 then 1 else 0) + (if a.testBit 1 then 1 else 0) + (if a.testBit 2 then 1 else 0) + (if a.testBit 3 then 1 else 0) + (if a.testBit 4 then 1 else 0) + (if a.testBit 5 then 1 else 0)
theorem z_bitCount : ∀ a, a < 64 → fI_bitCount (nI a) = nI (z_pc a) := by decide +kernel
def z_mk (P : Nat → Bool) : Nat → Nat
  | 0 => 0
  | n + 1 => z_mk P n ||| (if P n then 2 ^ n else 0)
theorem z_mk_bit (P : Nat → Bool) : ∀ n q, (z_mk P n).testBit q = (decide (q < n) && P q)
  | 0, q => by simp [z_mk]
  | n + 1, q => by
    rw [z_mk, Nat.testBit_or, z_mk_bit P n q]
    by_cases h : P n
    · rw [if_pos h, Nat.testBit_two_pow]
      by_cases e : n = q
      · subst e; simp [h]
      · have : (q < n + 1) ↔ (q < n) := by omega
        simp [e, this]
    · rw [if_neg h]
      by_cases e : n = q
      · subst e; simp [h]
      · have : (q < n + 1) ↔ (q < n) := by omega
        simp [this]
theorem z_mk_lt (P : Nat → Bool) (n : Nat) : z_mk P n < 2 ^ n := by
  induction n with
  | zero => simp [z_mk]
  | succ n ih =>
    rw [z_mk]
    have h2 : (if P n then 2 ^ n else 0) < 2 ^ (n + 1) := by
      split
      · exact Nat.pow_lt_pow_right (by omega) (by omega)
      · exact Nat.two_pow_pos _
    exact Nat.or_lt_two_pow (Nat.lt_of_lt_of_le ih (Nat.pow_le_pow_right (by omega) (by omega))) h2
theorem z_ext {a b n : Nat} (ha : a < 2 ^ n) (hb : b < 2 ^ n) (h : ∀ q, q < n → a.testBit q = b.testBit q) : a = b := by
  apply Nat.eq_of_testBit_eq
  intro q
  by_cases hq : q < n
  · exact h q hq
  · rw [Nat.testBit_lt_two_pow (Nat.lt_of_lt_of_le ha (Nat.pow_le_pow_right (by omega) (by omega))), Nat.testBit_lt_two_pow (Nat.lt_of_lt_of_le hb (Nat.pow_le_pow_right (by omega) (by omega)))]
theorem z_pow {p : Nat} (h : p ≤ 6) : 2 ^ p ≤ 64 := by
  have : 2 ^ p ≤ 2 ^ 6 := Nat.pow_le_pow_right (by omega) h
  omega
theorem z_hi {a n q : Nat} (ha : a < 2 ^ n) (hq : n ≤ q) : a.testBit q = false := Nat.testBit_lt_two_pow (Nat.lt_of_lt_of_le ha (Nat.pow_le_pow_right (by omega) hq))
theorem z_nz {a : Nat} (h : a < 2 ^ 31) : nI a = 0 ↔ a = 0 := by
  have := nI_eq (a := a) (b := 0) h (by omega)
  rw [nI_0] at this
  exact this
theorem z_inc (q : Nat) : nI q + 1 = nI (q + 1) := nI_1 q
