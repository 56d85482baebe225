/-! the reference's effect and swayed -/
theorem z_tb1 {X j : Nat} : X &&& 2 ^ j = 2 ^ j ↔ X.testBit j = true := by
  constructor
  · intro e
    have : (X &&& 2 ^ j).testBit j = (2 ^ j).testBit j := by rw [e]
    rw [Nat.testBit_and, Nat.testBit_two_pow_self] at this
    simpa using this
  · intro e
    apply Nat.eq_of_testBit_eq
    intro k
    rw [Nat.testBit_and, Nat.testBit_two_pow]
    by_cases c : j = k
    · subst c; simp [e]
    · simp [c]
theorem z_tb0 {X j : Nat} : X &&& 2 ^ j = 0 ↔ X.testBit j = false := by
  constructor
  · intro e
    have : (X &&& 2 ^ j).testBit j = (0 : Nat).testBit j := by rw [e]
    rw [Nat.testBit_and, Nat.testBit_two_pow_self, Nat.zero_testBit] at this
    simpa using this
  · intro e
    apply Nat.eq_of_testBit_eq
    intro k
    rw [Nat.testBit_and, Nat.testBit_two_pow, Nat.zero_testBit]
    by_cases c : j = k
    · subst c; simp [e]
    · simp [c]
theorem z_lsub {a b : Nat} : (lN a - lN b).toInt32 = nI a - nI b := by rw [Int64.toInt32_sub, lN_i, lN_i]
section
variable {w : x_W} {n h : Nat} {f : Nat → Nat} {t : Nat → Nat → Nat}
theorem z_p2 {i n : Nat} (hi : i < n) : 2 ^ i < 2 ^ n := Nat.pow_lt_pow_right (by omega) hi
theorem z_Mone (X : z_mx w n f h) (G : z_mg w 0 n f t) {i j b : Nat} (hi : i < n) (hj : j < n) (hb : b < 2) : fM_ofOne w 18 (nI i) (nI b) (nI j) = some (lN (z_df f t (2 ^ i) (b * 2 ^ i) (2 ^ j) (2 ^ j) (2 ^ i) (b * 2 ^ i) (2 ^ j) (2 ^ j) n 0 0 0)) := by
  obtain ⟨m0, m1, -⟩ := z_X0 X
  have hn := X.2.1
  have h64 : 2 ^ n ≤ 64 := z_pow hn
  have hi2 := z_p2 hi
  have hj2 := z_p2 hj
  have hpn := Nat.two_pow_pos n
  have hpi := Nat.two_pow_pos i
  have hpj := Nat.two_pow_pos j
  have hbi : b * 2 ^ i < 2 ^ n := by rcases z_b2 hb with rfl | rfl <;> omega
  have ht := G.2.2.1
  have A1 : z_df f t (2 ^ i) (b * 2 ^ i) (2 ^ j) (2 ^ j) (2 ^ i) (b * 2 ^ i) (2 ^ j) (2 ^ j) n 0 0 0 = z_sum (z_oF (fun X => z_pr (fun p => z_fc f t (2 ^ i) (b * 2 ^ i) p X) n 0) (fun X => decide (X &&& 2 ^ j = 2 ^ j) && decide (X &&& 2 ^ j = 2 ^ j))) (2 ^ n) := z_df1 G.2.1 ht hj2 (Nat.and_self _) hj2 (Nat.and_self _)
  rw [A1]
  have loop : ∀ k x fuel, x + k = 2 ^ n → k < fuel → fM_ofOne_6 w fuel 18 (nI i) (nI b) (nI j) (lN (z_sum (z_oF (fun X => z_pr (fun p => z_fc f t (2 ^ i) (b * 2 ^ i) p X) n 0) (fun X => decide (X &&& 2 ^ j = 2 ^ j) && decide (X &&& 2 ^ j = 2 ^ j))) x)) (nI x) = some (lN (z_sum (z_oF (fun X => z_pr (fun p => z_fc f t (2 ^ i) (b * 2 ^ i) p X) n 0) (fun X => decide (X &&& 2 ^ j = 2 ^ j) && decide (X &&& 2 ^ j = 2 ^ j))) (2 ^ n))) := by
    intro k
    induction k with
    | zero =>
      intro x fuel hx hk
      obtain ⟨m, rfl⟩ := z_suc hk
      rw [fM_ofOne_6, m0, Option.bind_some, z_mAll X, Option.bind_some, if_pos (nI_lt (show 2 ^ n - 1 < x by omega) (by omega)), show x = 2 ^ n by omega]
    | succ k ih =>
      intro x fuel hx hk
      obtain ⟨m, rfl⟩ := z_suc hk
      have next := ih (x + 1) m (by omega) (by omega)
      rw [fM_ofOne_6, m0, Option.bind_some, z_mAll X, Option.bind_some, if_neg (nI_nlt (show x ≤ 2 ^ n - 1 by omega) (by omega)), z_hasM _ (show x < 64 by omega) _ (by omega), z_inc, z_bit i (by omega), z_bsh b hb i (by omega)]
      cases c : x.testBit j
      · have c' : ¬ x &&& 2 ^ j = 2 ^ j := fun z => by rw [z_tb1, c] at z; cases z
        rw [if_pos (by decide)]
        rw [z_sum, z_oF_f (by simp [c'])] at next
        exact next
      · have c' : x &&& 2 ^ j = 2 ^ j := z_tb1.mpr c
        rw [if_neg (by decide), show (0 : Int32) = nI 0 from rfl, z_Mdraws G (by omega) (by omega) (by omega) (by omega), Option.bind_some, lN_add]
        rw [z_sum, z_oF_t (by simp [c'])] at next
        exact next
  unfold fM_ofOne
  exact loop (2 ^ n) 0 x_F (by omega) (by unfold x_F; omega)
theorem z_mPr (X : z_mx w n f h) {i j : Nat} (hi : i < n) (hj : j < n) (hij : i ≠ j) : fM_isPair w 18 (nI i) (nI j) 0 = some 1 := z_mPair X hi hj hij (s := 0) (Nat.two_pow_pos n) (Nat.zero_testBit _) (Nat.zero_testBit _)
theorem z_mPr0 (X : z_mx w n f h) {a b : Int32} (hv : ¬ z_Vp n a b) : fM_isPair w 18 a b 0 = some 0 := z_mPair0 X (fun ⟨i, j, _, h1, h2, h3, _, _, _, h4, h5, _⟩ => hv ⟨i, j, h1, h2, h3, h4, h5⟩)
theorem z_Meffect (X : z_mx w n f h) (G : z_mg w 0 n f t) {i j : Nat} (hi : i < n) (hj : j < n) (hij : i ≠ j) : fM_effect w 18 (nI i) (nI j) = some (nI (z_df f t (2 ^ i) (2 ^ i) (2 ^ j) (2 ^ j) (2 ^ i) (2 ^ i) (2 ^ j) (2 ^ j) n 0 0 0) - nI (z_df f t (2 ^ i) 0 (2 ^ j) (2 ^ j) (2 ^ i) 0 (2 ^ j) (2 ^ j) n 0 0 0)) := by
  obtain ⟨m0, m1, -⟩ := z_X0 X
  have o1 := z_Mone X G hi hj (b := 1) (by omega)
  have o0 := z_Mone X G hi hj (b := 0) (by omega)
  rw [Nat.one_mul] at o1
  rw [Nat.zero_mul] at o0
  unfold fM_effect
  rw [m0, Option.bind_some, z_mPr X hi hj hij, Option.bind_some, if_neg (by decide), show (1 : Int32) = nI 1 from rfl, o1, Option.bind_some, show (0 : Int32) = nI 0 from rfl, o0, Option.bind_some, z_lsub]
theorem z_Meffect0 (X : z_mx w n f h) {a b : Int32} (hv : ¬ z_Vp n a b) : fM_effect w 18 a b = some (-2) := by
  obtain ⟨m0, m1, -⟩ := z_X0 X
  unfold fM_effect
  rw [m0, Option.bind_some, z_mPr0 X hv, Option.bind_some, if_pos rfl]
theorem z_nf_a : ∀ c, c < 17 → ∀ d, d < 2 → z_nf 16 0 c d = 0 := by decide +kernel
theorem z_nf_b : ∀ c, c < 17 → ∀ d, d < 2 → z_nf c d 0 1 = 0 := by decide +kernel
theorem z_Mswayed (X : z_mx w n f h) (G : z_mg w 0 n f t) {i j : Nat} (hi : i < n) (hj : j < n) (hij : i ≠ j) : fM_swayed w 18 (nI i) (nI j) = some (nI (z_df f t (2 ^ i) (2 ^ i) (2 ^ j) (2 ^ j) (2 ^ i) 0 (2 ^ j) 0 n 0 0 0)) := by
  obtain ⟨m0, m1, -⟩ := z_X0 X
  have hn := X.2.1
  have h64 : 2 ^ n ≤ 64 := z_pow hn
  have hi2 := z_p2 hi
  have hj2 := z_p2 hj
  have hpn := Nat.two_pow_pos n
  have hpi := Nat.two_pow_pos i
  have hpj := Nat.two_pow_pos j
  have ht := G.2.2.1
  have A1 : z_df f t (2 ^ i) (2 ^ i) (2 ^ j) (2 ^ j) (2 ^ i) 0 (2 ^ j) 0 n 0 0 0 = z_sum (z_oF (fun X => z_sum (z_oF (fun Y => z_pr (fun p => z_nf (z_wi (2 ^ i) (2 ^ i) p (t p (X &&& f p))) (z_bt X p) (z_wi (2 ^ i) 0 p (t p (Y &&& f p))) (z_bt Y p)) n 0) (fun Y => decide (Y &&& 2 ^ j = 0))) (2 ^ n)) (fun X => decide (X &&& 2 ^ j = 2 ^ j))) (2 ^ n) := z_df2 G.2.1 hj2 (Nat.and_self _) hj2 (Nat.zero_and _)
  have A2 : z_sum (z_oF (fun X => z_sum (z_oF (fun Y => z_pr (fun p => z_nf (z_wi (2 ^ i) (2 ^ i) p (t p (X &&& f p))) (z_bt X p) (z_wi (2 ^ i) 0 p (t p (Y &&& f p))) (z_bt Y p)) n 0) (fun Y => decide (Y &&& 2 ^ j = 0))) (2 ^ n)) (fun X => decide (X &&& 2 ^ j = 2 ^ j))) (2 ^ n) = z_sum (fun X => z_sum (z_oF (fun Y => z_pr (fun p => z_nf (z_wi (2 ^ i) (2 ^ i) p (t p (X &&& f p))) (z_bt X p) (z_wi (2 ^ i) 0 p (t p (Y &&& f p))) (z_bt Y p)) n 0) (fun Y => X.testBit j && !Y.testBit j && X.testBit i && !Y.testBit i)) (2 ^ n)) (2 ^ n) := by
    refine z_sum_congr _ fun x hx => ?_
    cases c1 : x.testBit j
    · have c' : ¬ x &&& 2 ^ j = 2 ^ j := fun z => by rw [z_tb1, c1] at z; cases z
      rw [z_oF_f (by simp [c'])]
      exact (z_sum_0 _ fun y _ => z_oF_f (by simp)).symm
    · have c' : x &&& 2 ^ j = 2 ^ j := z_tb1.mpr c1
      rw [z_oF_t (by simp [c'])]
      refine z_sum_congr _ fun y hy => ?_
      cases c2 : y.testBit j
      · have d' : y &&& 2 ^ j = 0 := z_tb0.mpr c2
        rw [z_oF_t (by simp [d'])]
        cases c3 : x.testBit i
        · rw [z_oF_f (by simp)]
          refine z_pr_zero n 0 i (by omega) (by omega) ?_
          have e1 : z_wi (2 ^ i) (2 ^ i) i (t i (x &&& f i)) = 16 := by unfold z_wi; rw [Nat.testBit_two_pow_self]; rfl
          have e2 : z_bt x i = 0 := by unfold z_bt; rw [c3]; rfl
          rw [e1, e2]
          exact z_nf_a _ (Nat.lt_succ_of_le (z_wi_le (ht _ _))) _ (z_bt2 _ _)
        · cases c4 : y.testBit i
          · rw [z_oF_t (by simp [c2, c4])]
          · rw [z_oF_f (by simp [c4])]
            refine z_pr_zero n 0 i (by omega) (by omega) ?_
            have e1 : z_wi (2 ^ i) 0 i (t i (y &&& f i)) = 0 := by unfold z_wi; rw [Nat.testBit_two_pow_self, Nat.zero_testBit]; rfl
            have e2 : z_bt y i = 1 := by unfold z_bt; rw [c4]; rfl
            rw [e1, e2]
            exact z_nf_b _ (Nat.lt_succ_of_le (z_wi_le (ht _ _))) _ (z_bt2 _ _)
      · have d' : ¬ y &&& 2 ^ j = 0 := fun z => by rw [z_tb0, c2] at z; cases z
        rw [z_oF_f (by simp [d']), z_oF_f (by simp [c2])]
  rw [A1, A2]
  clear A1 A2
  have inner : ∀ (k18 : Nat → Int32 → Int32 → Int64 → Int32 → Option Int32) (x a : Nat), x < 64 → ∀ k y fuel, y + k = 2 ^ n → k < fuel → fM_swayed_30 w k18 fuel 18 (nI i) (nI j) (lN (a + z_sum (z_oF (fun Y => z_pr (fun p => z_nf (z_wi (2 ^ i) (2 ^ i) p (t p (x &&& f p))) (z_bt x p) (z_wi (2 ^ i) 0 p (t p (Y &&& f p))) (z_bt Y p)) n 0) (fun Y => x.testBit j && !Y.testBit j && x.testBit i && !Y.testBit i)) y)) (nI x) (nI y) = k18 18 (nI i) (nI j) (lN (a + z_sum (z_oF (fun Y => z_pr (fun p => z_nf (z_wi (2 ^ i) (2 ^ i) p (t p (x &&& f p))) (z_bt x p) (z_wi (2 ^ i) 0 p (t p (Y &&& f p))) (z_bt Y p)) n 0) (fun Y => x.testBit j && !Y.testBit j && x.testBit i && !Y.testBit i)) (2 ^ n))) (nI (x + 1)) := by
    intro k18 x a hx k
    induction k with
    | zero =>
      intro y fuel hy hk
      obtain ⟨m, rfl⟩ := z_suc hk
      rw [fM_swayed_30, m0, Option.bind_some, z_mAll X, Option.bind_some, if_pos (nI_lt (show 2 ^ n - 1 < y by omega) (by omega)), show y = 2 ^ n by omega, z_inc]
    | succ k ih =>
      intro y fuel hy hk
      obtain ⟨m, rfl⟩ := z_suc hk
      have next := ih (y + 1) m (by omega) (by omega)
      rw [fM_swayed_30, m0, Option.bind_some, z_mAll X, Option.bind_some, if_neg (nI_nlt (show y ≤ 2 ^ n - 1 by omega) (by omega)), z_hasM _ hx _ (by omega), z_hasM _ (show y < 64 by omega) _ (by omega), z_hasM _ hx _ (by omega), z_hasM _ (show y < 64 by omega) _ (by omega), z_inc]
      have skip : (x.testBit j && !y.testBit j && x.testBit i && !y.testBit i) = false → fM_swayed_30 w k18 m 18 (nI i) (nI j) (lN (a + z_sum (z_oF (fun Y => z_pr (fun p => z_nf (z_wi (2 ^ i) (2 ^ i) p (t p (x &&& f p))) (z_bt x p) (z_wi (2 ^ i) 0 p (t p (Y &&& f p))) (z_bt Y p)) n 0) (fun Y => x.testBit j && !Y.testBit j && x.testBit i && !Y.testBit i)) y)) (nI x) (nI (y + 1)) = k18 18 (nI i) (nI j) (lN (a + z_sum (z_oF (fun Y => z_pr (fun p => z_nf (z_wi (2 ^ i) (2 ^ i) p (t p (x &&& f p))) (z_bt x p) (z_wi (2 ^ i) 0 p (t p (Y &&& f p))) (z_bt Y p)) n 0) (fun Y => x.testBit j && !Y.testBit j && x.testBit i && !Y.testBit i)) (2 ^ n))) (nI (x + 1)) := by
        intro c
        rw [z_sum, z_oF_f c, Nat.add_zero] at next
        exact next
      by_cases c1 : x.testBit j = true
      · rw [if_neg (show ¬ (if x.testBit j = true then (1 : Int32) else 0) = 0 by rw [if_pos c1]; decide)]
        by_cases c2 : y.testBit j = true
        · rw [if_neg (show ¬ (if y.testBit j = true then (1 : Int32) else 0) = 0 by rw [if_pos c2]; decide)]
          exact skip (by simp [c2])
        · rw [if_pos (show (if y.testBit j = true then (1 : Int32) else 0) = 0 by rw [if_neg c2])]
          by_cases c3 : x.testBit i = true
          · rw [if_neg (show ¬ (if x.testBit i = true then (1 : Int32) else 0) = 0 by rw [if_pos c3]; decide)]
            by_cases c4 : y.testBit i = true
            · rw [if_neg (show ¬ (if y.testBit i = true then (1 : Int32) else 0) = 0 by rw [if_pos c4]; decide)]
              exact skip (by simp [c4])
            · rw [if_pos (show (if y.testBit i = true then (1 : Int32) else 0) = 0 by rw [if_neg c4])]
              unfold fM_swayedDraws
              rw [m0, Option.bind_some, z_bit i (by omega), show (0 : Int32) = nI 0 from rfl, z_Mtwo G m0 m1 (by omega) (by omega) (by omega) (by omega) (by omega) (by omega), Option.bind_some, Option.bind_some, lN_add]
              rw [z_sum, z_oF_t (by simp [c1, c2, c3, c4]), ← Nat.add_assoc] at next
              exact next
          · rw [if_pos (show (if x.testBit i = true then (1 : Int32) else 0) = 0 by rw [if_neg c3])]
            exact skip (by simp [c3])
      · rw [if_pos (show (if x.testBit j = true then (1 : Int32) else 0) = 0 by rw [if_neg c1])]
        exact skip (by simp [c1])
  have loop : ∀ k x fuel, x + k = 2 ^ n → k < fuel → fM_swayed_18 w fuel 18 (nI i) (nI j) (lN (z_sum (fun X => z_sum (z_oF (fun Y => z_pr (fun p => z_nf (z_wi (2 ^ i) (2 ^ i) p (t p (X &&& f p))) (z_bt X p) (z_wi (2 ^ i) 0 p (t p (Y &&& f p))) (z_bt Y p)) n 0) (fun Y => X.testBit j && !Y.testBit j && X.testBit i && !Y.testBit i)) (2 ^ n)) x)) (nI x) = some (nI (z_sum (fun X => z_sum (z_oF (fun Y => z_pr (fun p => z_nf (z_wi (2 ^ i) (2 ^ i) p (t p (X &&& f p))) (z_bt X p) (z_wi (2 ^ i) 0 p (t p (Y &&& f p))) (z_bt Y p)) n 0) (fun Y => X.testBit j && !Y.testBit j && X.testBit i && !Y.testBit i)) (2 ^ n)) (2 ^ n))) := by
    intro k
    induction k with
    | zero =>
      intro x fuel hx hk
      obtain ⟨m, rfl⟩ := z_suc hk
      rw [fM_swayed_18, m0, Option.bind_some, z_mAll X, Option.bind_some, if_pos (nI_lt (show 2 ^ n - 1 < x by omega) (by omega)), show x = 2 ^ n by omega, lN_i]
    | succ k ih =>
      intro x fuel hx hk
      obtain ⟨m, rfl⟩ := z_suc hk
      have next := ih (x + 1) m (by omega) (by omega)
      rw [fM_swayed_18, m0, Option.bind_some, z_mAll X, Option.bind_some, if_neg (nI_nlt (show x ≤ 2 ^ n - 1 by omega) (by omega))]
      exact (inner (fM_swayed_18 w m) x _ (by omega) (2 ^ n) 0 x_F (by omega) (by unfold x_F; omega)).trans next
  unfold fM_swayed
  rw [m0, Option.bind_some, z_mPr X hi hj hij, Option.bind_some, if_neg (by decide)]
  exact loop (2 ^ n) 0 x_F (by omega) (by unfold x_F; omega)
theorem z_Mswayed0 (X : z_mx w n f h) {a b : Int32} (hv : ¬ z_Vp n a b) : fM_swayed w 18 a b = some (-2) := by
  obtain ⟨m0, m1, -⟩ := z_X0 X
  unfold fM_swayed
  rw [m0, Option.bind_some, z_mPr0 X hv, Option.bind_some, if_pos rfl]
end
