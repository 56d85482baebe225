/-! the reference: what may be asked, parted, ways, parting -/
def z_mx (w : x_W) (n : Nat) (f : Nat → Nat) (h : Nat) : Prop := 1 ≤ n ∧ n ≤ 6 ∧ (∀ p, p < n → f p < 2 ^ p) ∧ h < 2 ^ n ∧ (∃ cI pr lm, w[18]? = some (.inr (5, [.ref 19, .ref 20, .ref 21, .ref 22, .int cI, .ref 23, .ref 24, .ref 25, .int pr, .ref 26, .ref 27, .int lm]))) ∧ (∃ N, w[19]? = some (.inl (2, N)) ∧ N 0 = nI n) ∧ (∃ P, w[20]? = some (.inl (12, P)) ∧ ∀ p, p < n → P p = nI (f p)) ∧ (∃ D, w[22]? = some (.inl (2, D)) ∧ D 0 = nI h) ∧ ∃ Y, w[23]? = some (.inl (6, Y))
section
variable {w : x_W} {n h : Nat} {f : Nat → Nat}
theorem z_X0 (X : z_mx w n f h) : x_ob w 18 5 = some () ∧ fM_n w 18 = some (nI n) ∧ x_fr w 18 5 3 = some 22 ∧ x_ai w 22 0 = some (nI h) := by
  obtain ⟨a1, a2, a3, a4, ⟨cI, pr, lm, a5⟩, ⟨N, a6, a7⟩, ⟨P, a8, a9⟩, ⟨D, b1, b2⟩, Y, b3⟩ := X
  refine ⟨z_ob a5, ?_, by rw [z_fr a5]; rfl, by rw [show (0 : Int32) = nI 0 from rfl, z_ai b1 (by omega) (by omega), b2]⟩
  unfold fM_n
  rw [z_fr a5]
  show (some 19).bind _ = _
  rw [Option.bind_some, show (0 : Int32) = nI 0 from rfl, z_ai a6 (by omega) (by omega), a7, Option.bind_some]
theorem z_cutset (X : z_mx w n f h) {c : Nat} (hc : c < 64) : ∃ w1, x_pf w 18 5 4 (.int (nI c)) = some w1 ∧ z_mx w1 n f h ∧ z_mw w1 c n f ∧ ∀ k, k ≠ 18 → w1[k]? = w[k]? := by
  obtain ⟨a1, a2, a3, a4, ⟨cI, pr, lm, a5⟩, ⟨N, a6, a7⟩, ⟨P, a8, a9⟩, ⟨D, b1, b2⟩, Y, b3⟩ := X
  have s := z_self (c' := .inr (5, [.ref 19, .ref 20, .ref 21, .ref 22, .int (nI c), .ref 23, .ref 24, .ref 25, .int pr, .ref 26, .ref 27, .int lm])) a5
  have e : ∀ k, k ≠ 18 → (w.set 18 (.inr (5, [.ref 19, .ref 20, .ref 21, .ref 22, .int (nI c), .ref 23, .ref 24, .ref 25, .int pr, .ref 26, .ref 27, .int lm])))[k]? = w[k]? := fun k hk => z_else (Ne.symm hk)
  refine ⟨w.set 18 (.inr (5, [.ref 19, .ref 20, .ref 21, .ref 22, .int (nI c), .ref 23, .ref 24, .ref 25, .int pr, .ref 26, .ref 27, .int lm])), z_pf a5 (by simp), ?_, ?_, e⟩
  · exact ⟨a1, a2, a3, a4, ⟨_, _, _, s⟩, ⟨N, by rw [e 19 (by omega)]; exact a6, a7⟩, ⟨P, by rw [e 20 (by omega)]; exact a8, a9⟩, ⟨D, by rw [e 22 (by omega)]; exact b1, b2⟩, Y, by rw [e 23 (by omega)]; exact b3⟩
  · exact ⟨a1, a2, a3, hc, ⟨_, _, s⟩, ⟨N, by rw [e 19 (by omega)]; exact a6, a7⟩, P, by rw [e 20 (by omega)]; exact a8, a9⟩
theorem z_cut0 (X : z_mx w n f h) : ∃ w1, x_pf w 18 5 4 (.int 0) = some w1 ∧ z_mx w1 n f h ∧ z_mw w1 0 n f ∧ ∀ k, k ≠ 18 → w1[k]? = w[k]? := z_cutset X (c := 0) (by omega)
theorem z_mways {c : Nat} (X : z_mx w n f h) (H : z_mw w c n f) {a b z : Nat} (ha : a < n) (hb : b < n) (hab : a ≠ b) (hz : z < 64) : ∃ w', fM_waysOf w 18 (nI a) (nI b) (nI z) = some (nI (z_ow (z_ct f c) n z b n none a (2 ^ a)), w') ∧ z_mx w' n f h ∧ z_mw w' c n f ∧ ∀ k, k ≠ 23 → w'[k]? = w[k]? := by
  obtain ⟨a1, a2, a3, a4, ⟨cI, pr, lm, a5⟩, ⟨N, a6, a7⟩, ⟨P, a8, a9⟩, ⟨D, b1, b2⟩, Y, b3⟩ := X
  obtain ⟨w', Y', r1, r2, r3⟩ := z_Mways H b3 ha hb hab hz
  exact ⟨w', r1, ⟨a1, a2, a3, a4, ⟨cI, pr, lm, by rw [r3 18 (by omega)]; exact a5⟩, ⟨N, by rw [r3 19 (by omega)]; exact a6, a7⟩, ⟨P, by rw [r3 20 (by omega)]; exact a8, a9⟩, ⟨D, by rw [r3 22 (by omega)]; exact b1, b2⟩, Y', r2⟩, z_mw_same H (r3 18 (by omega)) (r3 19 (by omega)) (r3 20 (by omega)), r3⟩
theorem z_owb {F : Nat → Nat} {z b a : Nat} (hn : n ≤ 6) : z_ow F n z b n none a (2 ^ a) < 2 ^ 31 := Nat.lt_of_le_of_lt (z_ow_le hn n none a (2 ^ a)) (Nat.lt_of_le_of_lt (Nat.pow_le_pow_right (by omega) hn) (by decide))
theorem z_isIn1 {k m : Nat} (h1 : k ≤ m) (hm : m < 2 ^ 31) : fM_isIn (nI k) 0 (nI m) = 1 := by
  unfold fM_isIn
  rw [if_neg (nI_pos (by omega)), if_neg (nI_nlt h1 hm)]
theorem z_isIn0 {x : Int32} {m : Nat} (hm : m + 1 < 2 ^ 31) (hx : ¬ ∃ k, k < m + 1 ∧ x = nI k) : fM_isIn x 0 (nI m) = 0 := by
  unfold fM_isIn
  rcases pk_ix x (n := m + 1) hm with q | q | ⟨j, q1, q2⟩
  · rw [if_pos q]
  · by_cases c : x < 0
    · rw [if_pos c]
    · rw [if_neg c, if_pos]
      rw [Int32.lt_iff_toInt_lt, nI_toInt (by omega)]
      rw [Int32.le_iff_toInt_le, nI_toInt hm] at q
      omega
  · exact absurd ⟨j, q1, q2⟩ hx
theorem z_mPl (X : z_mx w n f h) {k : Nat} (hk : k < n) : fM_isPlace w 18 (nI k) = some 1 := by
  obtain ⟨m0, m1, -⟩ := z_X0 X
  have hn := X.2.1
  unfold fM_isPlace
  rw [m0, Option.bind_some, m1, Option.bind_some, show (1 : Int32) = nI 1 from rfl, pk_sub (by omega), z_isIn1 (by omega) (by omega)]
  rfl
theorem z_mPl0 (X : z_mx w n f h) {x : Int32} (hx : ¬ ∃ k, k < n ∧ x = nI k) : fM_isPlace w 18 x = some 0 := by
  obtain ⟨m0, m1, -⟩ := z_X0 X
  have hn := X.2.1
  have h1 := X.1
  unfold fM_isPlace
  rw [m0, Option.bind_some, m1, Option.bind_some, show (1 : Int32) = nI 1 from rfl, pk_sub (by omega), z_isIn0 (by omega) (fun ⟨k, q1, q2⟩ => hx ⟨k, by omega, q2⟩)]
  rfl
theorem z_mAll (X : z_mx w n f h) : fM_all w 18 = some (nI (2 ^ n - 1)) := by
  obtain ⟨m0, m1, -⟩ := z_X0 X
  have hn := X.2.1
  unfold fM_all
  rw [m0, Option.bind_some, m1, Option.bind_some, z_allI n (by omega)]
theorem z_mSet (X : z_mx w n f h) {s : Nat} (hs : s < 2 ^ n) : fM_isSet w 18 (nI s) = some 1 := by
  obtain ⟨m0, m1, -⟩ := z_X0 X
  have hn := X.2.1
  have h1 : 2 ^ n ≤ 64 := z_pow hn
  unfold fM_isSet
  rw [m0, Option.bind_some, z_mAll X, Option.bind_some, z_isIn1 (by omega) (by omega)]
  rfl
theorem z_mSet0 (X : z_mx w n f h) {x : Int32} (hx : ¬ ∃ s, s < 2 ^ n ∧ x = nI s) : fM_isSet w 18 x = some 0 := by
  obtain ⟨m0, m1, -⟩ := z_X0 X
  have hn := X.2.1
  have h1 : 2 ^ n ≤ 64 := z_pow hn
  have h2 := Nat.two_pow_pos n
  unfold fM_isSet
  rw [m0, Option.bind_some, z_mAll X, Option.bind_some, z_isIn0 (by omega) (fun ⟨k, q1, q2⟩ => hx ⟨k, by omega, q2⟩)]
  rfl
theorem z_mPair (X : z_mx w n f h) {i j s : Nat} (hi : i < n) (hj : j < n) (hij : i ≠ j) (hs : s < 2 ^ n) (k1 : s.testBit i = false) (k2 : s.testBit j = false) : fM_isPair w 18 (nI i) (nI j) (nI s) = some 1 := by
  obtain ⟨m0, m1, -⟩ := z_X0 X
  have hn := X.2.1
  have hs64 := z_h64 hn hs
  unfold fM_isPair
  rw [m0, Option.bind_some, z_mPl X hi, Option.bind_some, if_neg (by decide), z_mPl X hj, Option.bind_some, if_neg (by decide), z_mSet X hs, Option.bind_some, if_neg (by decide), if_neg (fun e => hij ((nI_eq (by omega) (by omega)).mp e)), z_hasM _ hs64 _ (by omega), k1, z_hasM _ hs64 _ (by omega), k2]
  rfl
theorem z_mPair0 (X : z_mx w n f h) {a b z : Int32} (hv : ¬ z_Vw n a b z) : fM_isPair w 18 a b z = some 0 := by
  obtain ⟨m0, m1, -⟩ := z_X0 X
  have hn := X.2.1
  unfold fM_isPair
  rw [m0, Option.bind_some]
  by_cases c1 : ∃ k, k < n ∧ a = nI k
  · obtain ⟨i, hi, rfl⟩ := c1
    rw [z_mPl X hi, Option.bind_some, if_neg (by decide)]
    by_cases c2 : ∃ k, k < n ∧ b = nI k
    · obtain ⟨j, hj, rfl⟩ := c2
      rw [z_mPl X hj, Option.bind_some, if_neg (by decide)]
      by_cases c3 : ∃ s, s < 2 ^ n ∧ z = nI s
      · obtain ⟨s, hs, rfl⟩ := c3
        have hs64 := z_h64 hn hs
        rw [z_mSet X hs, Option.bind_some, if_neg (by decide)]
        by_cases e : i = j
        · rw [if_pos (by rw [e])]
        · rw [if_neg (fun q => e ((nI_eq (by omega) (by omega)).mp q)), z_hasM _ hs64 _ (by omega), z_hasM _ hs64 _ (by omega)]
          cases k1 : s.testBit i
          · cases k2 : s.testBit j
            · exact absurd ⟨i, j, s, hi, hj, e, hs, k1, k2, rfl, rfl, rfl⟩ hv
            · rfl
          · rfl
      · rw [z_mSet0 X c3, Option.bind_some, if_pos rfl]
    · rw [z_mPl0 X c2, Option.bind_some, if_pos rfl]
  · rw [z_mPl0 X c1, Option.bind_some, if_pos rfl]
theorem z_ct0 {p : Nat} (hn : n ≤ 6) (hf : ∀ p, p < n → f p < 2 ^ p) (hp : p < n) : z_ct f 0 p = f p := by
  unfold z_ct
  exact z_63 (z_f64 hn hf hp)
end
/-- the ways depend on the arrows of the places alone -/
theorem z_rc_congr {F F' : Nat → Nat} {thr p : Nat} : ∀ q, (∀ k, k < q → F k = F' k) → z_rc F thr p q = z_rc F' thr p q
  | 0, _ => rfl
  | q + 1, hh => by rw [z_rc, z_rc, z_rc_congr q (fun k hk => hh k (by omega)), hh q (by omega)]
theorem z_op_congr {F F' : Nat → Nat} {n z l m q : Nat} (hm : m < n) (hh : ∀ k, k < n → F k = F' k) : z_op F n z l m q = z_op F' n z l m q := by
  unfold z_op
  rw [hh m hm, z_rc_congr n hh]
theorem z_ow_congr {F F' : Nat → Nat} {n z goal : Nat} (hh : ∀ k, k < n → F k = F' k) : ∀ d last m been, m < n → z_ow F n z goal d last m been = z_ow F' n z goal d last m been
  | 0, last, m, been, hm => by rw [z_ow, z_ow]
  | d + 1, last, m, been, hm => by
    rw [z_ow, z_ow]
    by_cases e : m = goal
    · rw [if_pos e, if_pos e]
    · rw [if_neg e, if_neg e]
      refine z_sum_congr n fun q hq => ?_
      rw [hh m hm, hh q hq, z_ow_congr hh d (some m) q _ hq]
      have : z_opl F n z last m q = z_opl F' n z last m q := by
        cases last with
        | none => rfl
        | some l => exact z_op_congr hm hh
      rw [this]
section
variable {w : x_W} {n h : Nat} {f : Nat → Nat}
theorem z_ow0 (X : z_mx w n f h) {z b a : Nat} (ha : a < n) : z_ow (z_ct f 0) n z b n none a (2 ^ a) = z_ow f n z b n none a (2 ^ a) := z_ow_congr (fun k hk => z_ct0 X.2.1 X.2.2.1 hk) n none a (2 ^ a) ha
/-- what a call of the reference leaves as it was -/
abbrev z_kM (w w' : x_W) : Prop := ∀ k, k ≠ 18 → k ≠ 23 → w'[k]? = w[k]?
theorem z_Mparted (X : z_mx w n f h) {i j s : Nat} (hi : i < n) (hj : j < n) (hij : i ≠ j) (hs : s < 2 ^ n) (k1 : s.testBit i = false) (k2 : s.testBit j = false) : ∃ w', fM_parted w 18 (nI i) (nI j) (nI s) = some (if z_ow f n s j n none i (2 ^ i) = 0 then 1 else 0, w') ∧ z_mx w' n f h ∧ z_kM w w' := by
  obtain ⟨w1, r1, r2, r3, r4⟩ := z_cut0 X
  obtain ⟨w2, p1, p2, -, p4⟩ := z_mways r2 r3 hi hj hij (z_h64 X.2.1 hs)
  rw [z_ow0 X hi] at p1
  obtain ⟨m0, -⟩ := z_X0 r2
  refine ⟨w2, ?_, p2, fun k h1 h2 => by rw [p4 k h2, r4 k h1]⟩
  unfold fM_parted
  rw [r1, Option.bind_some, m0, Option.bind_some, z_mPair r2 hi hj hij hs k1 k2, Option.bind_some, if_neg (by decide), p1, Option.bind_some]
  by_cases e : z_ow f n s j n none i (2 ^ i) = 0
  · rw [if_pos ((z_nz (z_owb X.2.1)).mpr e), if_pos e]
  · rw [if_neg (fun q => e ((z_nz (z_owb X.2.1)).mp q)), if_neg e]
theorem z_Mparted0 (X : z_mx w n f h) {a b z : Int32} (hv : ¬ z_Vw n a b z) : ∃ w', fM_parted w 18 a b z = some (-2, w') ∧ z_mx w' n f h ∧ z_kM w w' := by
  obtain ⟨w1, r1, r2, r3, r4⟩ := z_cut0 X
  obtain ⟨m0, -⟩ := z_X0 r2
  refine ⟨w1, ?_, r2, fun k h1 h2 => r4 k h1⟩
  unfold fM_parted
  rw [r1, Option.bind_some, m0, Option.bind_some, z_mPair0 r2 hv, Option.bind_some, if_pos rfl]
theorem z_Mwys (X : z_mx w n f h) {i j s : Nat} (hi : i < n) (hj : j < n) (hij : i ≠ j) (hs : s < 2 ^ n) (k1 : s.testBit i = false) (k2 : s.testBit j = false) : ∃ w', fM_ways w 18 (nI i) (nI j) (nI s) = some (nI (z_ow f n s j n none i (2 ^ i)), w') ∧ z_mx w' n f h ∧ z_kM w w' := by
  obtain ⟨w1, r1, r2, r3, r4⟩ := z_cut0 X
  obtain ⟨w2, p1, p2, -, p4⟩ := z_mways r2 r3 hi hj hij (z_h64 X.2.1 hs)
  rw [z_ow0 X hi] at p1
  obtain ⟨m0, -⟩ := z_X0 r2
  refine ⟨w2, ?_, p2, fun k h1 h2 => by rw [p4 k h2, r4 k h1]⟩
  unfold fM_ways
  rw [r1, Option.bind_some, m0, Option.bind_some, z_mPair r2 hi hj hij hs k1 k2, Option.bind_some, if_neg (by decide), p1, Option.bind_some]
theorem z_Mwys0 (X : z_mx w n f h) {a b z : Int32} (hv : ¬ z_Vw n a b z) : ∃ w', fM_ways w 18 a b z = some (-2, w') ∧ z_mx w' n f h ∧ z_kM w w' := by
  obtain ⟨w1, r1, r2, r3, r4⟩ := z_cut0 X
  obtain ⟨m0, -⟩ := z_X0 r2
  refine ⟨w1, ?_, r2, fun k h1 h2 => r4 k h1⟩
  unfold fM_ways
  rw [r1, Option.bind_some, m0, Option.bind_some, z_mPair0 r2 hv, Option.bind_some, if_pos rfl]
end
theorem z_sb : ∀ s, s < 64 → ∀ k, k < 6 → (nI s >>> (nI k &&& 31)) &&& 1 = nI (if s.testBit k then 1 else 0) := by decide +kernel
theorem z_ones {s : Nat} (hs : s < 64) : fM_ones (nI s) = some (nI (z_pc s)) := by
  have st : ∀ m a k, k < 6 → fM_ones_4 (m + 1) (nI s) (nI a) (nI k) = fM_ones_4 m (nI s) (nI (a + (if s.testBit k then 1 else 0))) (nI (k + 1)) := by
    intro m a k hk
    rw [fM_ones_4, show (6 : Int32) = nI 6 from rfl, if_neg (nI_ge hk (by omega)), z_sb s hs k hk, nI_add, z_inc]
  unfold fM_ones
  rw [show x_F = 99999993 + 1 + 1 + 1 + 1 + 1 + 1 + 1 from rfl, show (0 : Int32) = nI 0 from rfl, st _ _ 0 (by omega), st _ _ 1 (by omega), st _ _ 2 (by omega), st _ _ 3 (by omega), st _ _ 4 (by omega), st _ _ 5 (by omega), fM_ones_4, if_pos (by decide)]
  unfold z_pc
  rw [Nat.zero_add]
