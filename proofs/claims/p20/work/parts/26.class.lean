/-! the class as numbers: its state, and what may be asked -/
def z_A (w : x_W) (g : Nat) : Prop := w[0]? = some (.inr (0, [.ref g, .ref (6 - g), .ref 9, .ref 11, .ref 16, .ref 17])) ∧ (g = 1 ∨ g = 5)
def z_ok (n : Nat) (f : Nat → Nat) (t : Nat → Nat → Nat) (h : Nat) : Prop := 1 ≤ n ∧ n ≤ 6 ∧ (∀ p, p < n → f p < 2 ^ p) ∧ (∀ p v, t p v ≤ 16) ∧ h < 2 ^ n
def z_gc (w : x_W) (o n : Nat) (f : Nat → Nat) (t : Nat → Nat → Nat) (h : Nat) : Prop := z_ok n f t h ∧ w[o]? = some (.inr (2, [.ref (o + 1), .ref (o + 3), .int (nI h)])) ∧ w[o + 1]? = some (.inr (1, [.int (nI n), .ref (o + 2)])) ∧ ∃ F U, w[o + 2]? = some (.inl (6, F)) ∧ w[o + 3]? = some (.inl (192, U)) ∧ (∀ p, p < n → F p = nI (f p)) ∧ ∀ p, p < n → ∀ v, v < 32 → v &&& f p = v → U (p * 32 + v) = nI (t p v)
def z_sc (w : x_W) : Prop := (∃ m C, w[9]? = some (.inr (1, [.int m, .ref 10])) ∧ w[10]? = some (.inl (6, C))) ∧ (∃ s d, w[11]? = some (.inr (4, [.ref 12, .ref 13, .ref 14, .ref 15, .int s, .int d]))) ∧ (∃ C, w[12]? = some (.inl (6, C))) ∧ (∃ C, w[13]? = some (.inl (6, C))) ∧ (∃ C, w[14]? = some (.inl (6, C))) ∧ (∃ C, w[15]? = some (.inl (6, C))) ∧ (∃ a b c d, w[16]? = some (.inr (3, [a, b, c, d]))) ∧ ∃ a b c d, w[17]? = some (.inr (3, [a, b, c, d]))
theorem z_gc_same {w w' : x_W} {o n h : Nat} {f : Nat → Nat} {t : Nat → Nat → Nat} (H : z_gc w o n f t h) (hs : ∀ j, o ≤ j → j ≤ o + 3 → w'[j]? = w[j]?) : z_gc w' o n f t h := by
  obtain ⟨h0, h1, h2, F, U, h3, h4, h5, h6⟩ := H
  exact ⟨h0, by rw [hs o (by omega) (by omega)]; exact h1, by rw [hs (o + 1) (by omega) (by omega)]; exact h2, F, U, by rw [hs (o + 2) (by omega) (by omega)]; exact h3, by rw [hs (o + 3) (by omega) (by omega)]; exact h4, h5, h6⟩
theorem z_h64 {n h : Nat} (hn : n ≤ 6) (hh : h < 2 ^ n) : h < 64 := Nat.lt_of_lt_of_le hh (z_pow hn)
theorem z_gc_arr {w : x_W} {o n h : Nat} {f : Nat → Nat} {t : Nat → Nat → Nat} (H : z_gc w o n f t h) : z_arr w (o + 1) n f := by
  obtain ⟨h0, h1, h2, F, U, h3, h4, h5, h6⟩ := H
  exact z_arr_of h2 h3 h0.2.1 h0.2.2.1 h5
theorem z_gc_gr {w : x_W} {o n h : Nat} {f : Nat → Nat} {t : Nat → Nat → Nat} (H : z_gc w o n f t h) : z_gr w o n f t h := by
  have ha := z_gc_arr H
  obtain ⟨h0, h1, h2, F, U, h3, h4, h5, h6⟩ := H
  refine ⟨z_h64 h0.2.1 h0.2.2.2.2, z_ob h1, by rw [z_fi h1]; rfl, o + 1, o + 3, by rw [z_fr h1]; rfl, ha, by rw [z_fr h1]; rfl, fun p hp v hv hs => ?_⟩
  have := h0.2.1
  rw [z_ai h4 (show p * 32 + v < 192 by omega) (by omega), h6 p hp v hv hs]
theorem z_bv (x : Int32) : x = nI x.toBitVec.toNat := by
  apply Int32.toBitVec_inj.mp
  show x.toBitVec = BitVec.ofNat 32 x.toBitVec.toNat
  simp
theorem z_within1 {s m : Nat} (hs : s < 64) (hm : m < 64) (h : s &&& m = s) : fA_isWithin (nI s) (nI m) = 1 := by
  unfold fA_isWithin
  rw [z_not s hs m hm, if_pos]
  have : s &&& (63 - m) = 0 := by
    apply Nat.eq_of_testBit_eq
    intro i
    rw [Nat.testBit_and, Nat.zero_testBit]
    by_cases hi : i < 6
    · rw [z_cpl m hm i hi]
      have e : (s &&& m).testBit i = s.testBit i := by rw [h]
      rw [Nat.testBit_and] at e
      cases hh : s.testBit i
      · simp
      · rw [hh] at e; simp at e; simp [e]
    · rw [z_hi (n := 6) hs (by omega)]; simp
  rw [this, nI_0]
theorem z_within {m : Nat} (hm : m < 64) (x : Int32) : (∃ s, s < 64 ∧ s &&& m = s ∧ x = nI s) ∨ fA_isWithin x (nI m) = 0 := by
  by_cases c : x &&& (nI m ^^^ (-1)) = 0
  · left
    have e : x &&& nI m = x := by
      apply Int32.toBitVec_inj.mp
      have c' : (x &&& (nI m ^^^ (-1))).toBitVec = (0 : Int32).toBitVec := by rw [c]
      apply BitVec.eq_of_getLsbD_eq
      intro i hi
      have ci : ((x &&& (nI m ^^^ (-1))).toBitVec).getLsbD i = ((0 : Int32).toBitVec).getLsbD i := by rw [c']
      have e0 : ((0 : Int32).toBitVec).getLsbD i = false := by
        show (BitVec.ofNat 32 0).getLsbD i = false
        simp
      have e1 : ((-1 : Int32).toBitVec).getLsbD i = true := by
        have : (-1 : Int32).toBitVec = BitVec.allOnes 32 := by decide
        rw [this, BitVec.getLsbD_allOnes]; exact decide_eq_true hi
      rw [e0, Int32.toBitVec_and, Int32.toBitVec_xor, BitVec.getLsbD_and, BitVec.getLsbD_xor, e1] at ci
      rw [Int32.toBitVec_and, BitVec.getLsbD_and]
      cases hx : x.toBitVec.getLsbD i <;> cases hmm : (nI m).toBitVec.getLsbD i <;> simp_all
    refine ⟨x.toBitVec.toNat &&& m, Nat.lt_of_le_of_lt Nat.and_le_right hm, by rw [Nat.and_assoc, Nat.and_self], ?_⟩
    rw [← z_and, ← z_bv]
    exact e.symm
  · right
    unfold fA_isWithin
    rw [if_neg c]
theorem z_below : ∀ p, p < 7 → fA_placesBelow (nI p) = nI (2 ^ p - 1) := by decide +kernel
theorem z_sub_mask {s n : Nat} : s &&& (2 ^ n - 1) = s ↔ s < 2 ^ n := by
  rw [Nat.and_two_pow_sub_one_eq_mod]
  constructor
  · intro h; rw [← h]; exact Nat.mod_lt _ (Nat.two_pow_pos n)
  · intro h; exact Nat.mod_eq_of_lt h
section
variable {w : x_W} {g n h : Nat} {f : Nat → Nat} {t : Nat → Nat → Nat}
theorem z_A0 (A : z_A w g) : x_ob w 0 0 = some () ∧ x_fr w 0 0 0 = some g ∧ x_fr w 0 0 1 = some (6 - g) ∧ x_fr w 0 0 2 = some 9 ∧ x_fr w 0 0 3 = some 11 ∧ x_fr w 0 0 4 = some 16 ∧ x_fr w 0 0 5 = some 17 :=
  ⟨z_ob A.1, by rw [z_fr A.1]; rfl, by rw [z_fr A.1]; rfl, by rw [z_fr A.1]; rfl, by rw [z_fr A.1]; rfl, by rw [z_fr A.1]; rfl, by rw [z_fr A.1]; rfl⟩
theorem z_G0 (G : z_gc w g n f t h) : x_ob w g 2 = some () ∧ x_fr w g 2 0 = some (g + 1) ∧ x_fr w g 2 1 = some (g + 3) ∧ x_fi w g 2 2 = some (nI h) ∧ x_ob w (g + 1) 1 = some () ∧ x_fi w (g + 1) 1 0 = some (nI n) ∧ x_fr w (g + 1) 1 1 = some (g + 2) ∧ ∀ p, p < n → x_ai w (g + 2) (nI p) = some (nI (f p)) := by
  obtain ⟨h0, h1, h2, F, U, h3, h4, h5, h6⟩ := G
  have := h0.2.1
  exact ⟨z_ob h1, by rw [z_fr h1]; rfl, by rw [z_fr h1]; rfl, by rw [z_fi h1]; rfl, z_ob h2, by rw [z_fi h2]; rfl, by rw [z_fr h2]; rfl, fun p hp => by rw [z_ai h3 (by omega) (by omega), h5 p hp]⟩
theorem z_isPl (A : z_A w g) (G : z_gc w g n f t h) {k : Nat} (hk : k < n) : fA_isPlace w 0 (nI k) = some 1 := by
  obtain ⟨-, a1, -⟩ := z_A0 A
  obtain ⟨-, b1, -, -, -, b2, -⟩ := z_G0 G
  have hn := G.1.2.1
  unfold fA_isPlace
  rw [if_neg (nI_pos (by omega)), a1, Option.bind_some, b1, Option.bind_some, b2, Option.bind_some, if_neg (nI_ge hk (by omega))]
theorem z_isPl0 (A : z_A w g) (G : z_gc w g n f t h) {x : Int32} (hx : ¬ ∃ k, k < n ∧ x = nI k) : fA_isPlace w 0 x = some 0 := by
  obtain ⟨-, a1, -⟩ := z_A0 A
  obtain ⟨-, b1, -, -, -, b2, -⟩ := z_G0 G
  have hn := G.1.2.1
  unfold fA_isPlace
  rcases pk_ix x (n := n) (by omega) with h1 | h1 | ⟨j, h1, h2⟩
  · rw [if_pos h1]
  · by_cases c : x < 0
    · rw [if_pos c]
    · rw [if_neg c, a1, Option.bind_some, b1, Option.bind_some, b2, Option.bind_some, if_pos h1]
  · exact absurd ⟨j, h1, h2⟩ hx
theorem z_all (A : z_A w g) (G : z_gc w g n f t h) : fA_allPlaces w 0 = some (nI (2 ^ n - 1)) := by
  obtain ⟨-, a1, -⟩ := z_A0 A
  obtain ⟨-, b1, -, -, -, b2, -⟩ := z_G0 G
  have hn := G.1.2.1
  unfold fA_allPlaces
  rw [a1, Option.bind_some, b1, Option.bind_some, b2, Option.bind_some, z_below n (by omega)]
/-- a and b are two different places -/
def z_Vp (n : Nat) (a b : Int32) : Prop := ∃ i j, i < n ∧ j < n ∧ i ≠ j ∧ a = nI i ∧ b = nI j
theorem z_pair (A : z_A w g) (G : z_gc w g n f t h) {i j : Nat} (hi : i < n) (hj : j < n) (hij : i ≠ j) : fA_isPair w 0 (nI i) (nI j) = some 1 := by
  obtain ⟨a0, -⟩ := z_A0 A
  have hn := G.1.2.1
  unfold fA_isPair
  rw [a0, Option.bind_some, z_isPl A G hi, Option.bind_some, if_neg (by decide), z_isPl A G hj, Option.bind_some, if_neg (by decide), if_neg (fun e => hij ((nI_eq (by omega) (by omega)).mp e))]
theorem z_pair0 (A : z_A w g) (G : z_gc w g n f t h) {a b : Int32} (hv : ¬ z_Vp n a b) : fA_isPair w 0 a b = some 0 := by
  obtain ⟨a0, -⟩ := z_A0 A
  unfold fA_isPair
  rw [a0, Option.bind_some]
  by_cases c1 : ∃ k, k < n ∧ a = nI k
  · obtain ⟨i, hi, rfl⟩ := c1
    rw [z_isPl A G hi, Option.bind_some, if_neg (by decide)]
    by_cases c2 : ∃ k, k < n ∧ b = nI k
    · obtain ⟨j, hj, rfl⟩ := c2
      rw [z_isPl A G hj, Option.bind_some, if_neg (by decide)]
      by_cases e : i = j
      · rw [if_pos (by rw [e])]
      · exact absurd ⟨i, j, hi, hj, e, rfl, rfl⟩ hv
    · rw [z_isPl0 A G c2, Option.bind_some, if_pos rfl]
  · rw [z_isPl0 A G c1, Option.bind_some, if_pos rfl]
/-- the places but i and j -/
def z_but (n i j : Nat) : Nat := (2 ^ n - 1) &&& (63 - 2 ^ i) &&& (63 - 2 ^ j)
theorem z_b63 : ∀ i, i < 6 → ∀ k, k < 6 → (63 - 2 ^ i).testBit k = !decide (i = k) := by decide +kernel
theorem z_but_bit {i j k : Nat} (hn : n ≤ 6) (hi : i < n) (hj : j < n) (hk : k < 6) : (z_but n i j).testBit k = (decide (k < n) && !decide (i = k) && !decide (j = k)) := by
  unfold z_but
  rw [Nat.testBit_and, Nat.testBit_and, z_b63 i (by omega) k hk, z_b63 j (by omega) k hk, Nat.testBit_two_pow_sub_one]
theorem z_but64 {i j : Nat} (hn : n ≤ 6) : z_but n i j < 64 := by
  have h1 : 2 ^ n ≤ 64 := z_pow hn
  have h2 : z_but n i j ≤ 2 ^ n - 1 := Nat.le_trans Nat.and_le_left Nat.and_le_left
  omega
theorem z_sub_bits {s m : Nat} (hs : s < 64) : s &&& m = s ↔ ∀ k, k < 6 → s.testBit k = true → m.testBit k = true := by
  constructor
  · intro e k hk hb
    have : (s &&& m).testBit k = s.testBit k := by rw [e]
    rw [Nat.testBit_and, hb] at this
    simpa using this
  · intro e
    apply Nat.eq_of_testBit_eq
    intro k
    rw [Nat.testBit_and]
    by_cases hk : k < 6
    · cases hb : s.testBit k
      · simp
      · rw [e k hk hb]; rfl
    · rw [z_hi (n := 6) hs (by omega)]; simp
theorem z_but_sub {i j s : Nat} (hn : n ≤ 6) (hi : i < n) (hj : j < n) : (s < 64 ∧ s &&& z_but n i j = s) ↔ (s < 2 ^ n ∧ s.testBit i = false ∧ s.testBit j = false) := by
  constructor
  · rintro ⟨hs, e⟩
    have hb := (z_sub_bits hs).mp e
    refine ⟨?_, ?_, ?_⟩
    · have : s ≤ 2 ^ n - 1 := by
        rw [← e]
        exact Nat.le_trans Nat.and_le_right (Nat.le_trans Nat.and_le_left Nat.and_le_left)
      have := Nat.two_pow_pos n
      omega
    · cases c : s.testBit i
      · rfl
      · have := hb i (by omega) c
        rw [z_but_bit hn hi hj (by omega)] at this
        simp at this
    · cases c : s.testBit j
      · rfl
      · have := hb j (by omega) c
        rw [z_but_bit hn hi hj (by omega)] at this
        simp at this
  · rintro ⟨hs, e1, e2⟩
    have hs64 := z_h64 hn hs
    refine ⟨hs64, (z_sub_bits hs64).mpr fun k hk hb => ?_⟩
    rw [z_but_bit hn hi hj hk]
    have hkn : k < n := by
      rcases Nat.lt_or_ge k n with q | q
      · exact q
      · rw [z_hi hs q] at hb; cases hb
    have n1 : i ≠ k := fun e => by subst e; rw [e1] at hb; cases hb
    have n2 : j ≠ k := fun e => by subst e; rw [e2] at hb; cases hb
    simp [hkn, n1, n2]
theorem z_butI {i j : Nat} (hn : n ≤ 6) (hi : i < n) (hj : j < n) : (nI (2 ^ n - 1) &&& (((1 : Int32) <<< (nI i &&& 31)) ^^^ (-1))) &&& (((1 : Int32) <<< (nI j &&& 31)) ^^^ (-1)) = nI (z_but n i j) := by
  have h1 : 2 ^ n ≤ 64 := z_pow hn
  have h2 : 2 ^ i < 64 := Nat.lt_of_lt_of_le (Nat.pow_lt_pow_right (by omega) (show i < 6 by omega)) (by decide)
  have h3 : 2 ^ j < 64 := Nat.lt_of_lt_of_le (Nat.pow_lt_pow_right (by omega) (show j < 6 by omega)) (by decide)
  have h4 := Nat.two_pow_pos n
  rw [z_bit i (by omega), z_bit j (by omega), z_not _ (by omega) _ h2, z_not _ (Nat.lt_of_le_of_lt Nat.and_le_left (by omega)) _ h3]
  rfl
/-- a, b two places, z a set without them -/
def z_Vw (n : Nat) (a b z : Int32) : Prop := ∃ i j s, i < n ∧ j < n ∧ i ≠ j ∧ s < 2 ^ n ∧ s.testBit i = false ∧ s.testBit j = false ∧ a = nI i ∧ b = nI j ∧ z = nI s
theorem z_ask (A : z_A w g) (G : z_gc w g n f t h) {i j s : Nat} (hi : i < n) (hj : j < n) (hij : i ≠ j) (hs : s < 2 ^ n) (h1 : s.testBit i = false) (h2 : s.testBit j = false) : fA_isAskOfWays w 0 (nI i) (nI j) (nI s) = some 1 := by
  obtain ⟨a0, -⟩ := z_A0 A
  have hn := G.1.2.1
  obtain ⟨q1, q2⟩ := (z_but_sub hn hi hj).mpr ⟨hs, h1, h2⟩
  unfold fA_isAskOfWays
  rw [a0, Option.bind_some, z_pair A G hi hj hij, Option.bind_some, if_neg (by decide), z_all A G, Option.bind_some, z_butI hn hi hj, z_within1 q1 (z_but64 hn) q2, if_neg (by decide)]
theorem z_ask0 (A : z_A w g) (G : z_gc w g n f t h) {a b z : Int32} (hv : ¬ z_Vw n a b z) : fA_isAskOfWays w 0 a b z = some 0 := by
  obtain ⟨a0, -⟩ := z_A0 A
  have hn := G.1.2.1
  unfold fA_isAskOfWays
  rw [a0, Option.bind_some]
  by_cases c : z_Vp n a b
  · obtain ⟨i, j, hi, hj, hij, rfl, rfl⟩ := c
    rw [z_pair A G hi hj hij, Option.bind_some, if_neg (by decide), z_all A G, Option.bind_some, z_butI hn hi hj]
    rcases z_within (z_but64 hn) z with ⟨s, q1, q2, rfl⟩ | q
    · obtain ⟨r1, r2, r3⟩ := (z_but_sub hn hi hj).mp ⟨q1, q2⟩
      exact absurd ⟨i, j, s, hi, hj, hij, r1, r2, r3, rfl, rfl, rfl⟩ hv
    · rw [q, if_pos rfl]
  · rw [z_pair0 A G c, Option.bind_some, if_pos rfl]
/-- parted and ways -/
theorem z_Cparted (A : z_A w g) (G : z_gc w g n f t h) {i j s : Nat} (hi : i < n) (hj : j < n) (hij : i ≠ j) (hs : s < 2 ^ n) (h1 : s.testBit i = false) (h2 : s.testBit j = false) : fA_parted w 0 (nI i) (nI j) (nI s) = some (if z_ow f n s j n none i (2 ^ i) = 0 then 1 else 0) := by
  obtain ⟨a0, a1, -⟩ := z_A0 A
  obtain ⟨-, b1, -, -, b2, -⟩ := z_G0 G
  unfold fA_parted
  rw [a0, Option.bind_some, z_ask A G hi hj hij hs h1 h2, Option.bind_some, if_neg (by decide), a1, Option.bind_some, b1, Option.bind_some, b2, Option.bind_some, z_parted (z_gc_arr G) (z_h64 G.1.2.1 hs) hi hj, Option.bind_some]
  by_cases c : z_ow f n s j n none i (2 ^ i) = 0
  · rw [if_pos c]; rfl
  · rw [if_neg c]; rfl
theorem z_Cparted0 (A : z_A w g) (G : z_gc w g n f t h) {a b z : Int32} (hv : ¬ z_Vw n a b z) : fA_parted w 0 a b z = some (-2) := by
  obtain ⟨a0, a1, -⟩ := z_A0 A
  unfold fA_parted
  rw [a0, Option.bind_some, z_ask0 A G hv, Option.bind_some, if_pos rfl]
theorem z_Cways (A : z_A w g) (G : z_gc w g n f t h) {i j s : Nat} (hi : i < n) (hj : j < n) (hij : i ≠ j) (hs : s < 2 ^ n) (h1 : s.testBit i = false) (h2 : s.testBit j = false) : fA_ways w 0 (nI i) (nI j) (nI s) = some (nI (z_ow f n s j n none i (2 ^ i))) := by
  obtain ⟨a0, a1, -⟩ := z_A0 A
  obtain ⟨-, b1, -, -, b2, -⟩ := z_G0 G
  unfold fA_ways
  rw [a0, Option.bind_some, z_ask A G hi hj hij hs h1 h2, Option.bind_some, if_neg (by decide), a1, Option.bind_some, b1, Option.bind_some, b2, Option.bind_some, z_ways (z_gc_arr G) (z_h64 G.1.2.1 hs) hi hj, Option.bind_some]
theorem z_Cways0 (A : z_A w g) (G : z_gc w g n f t h) {a b z : Int32} (hv : ¬ z_Vw n a b z) : fA_ways w 0 a b z = some (-2) := by
  obtain ⟨a0, a1, -⟩ := z_A0 A
  unfold fA_ways
  rw [a0, Option.bind_some, z_ask0 A G hv, Option.bind_some, if_pos rfl]
end
