/-! the class's draws are sums over the values -/
theorem z_sum_add {g g' : Nat → Nat} : ∀ n, z_sum g n + z_sum g' n = z_sum (fun i => g i + g' i) n
  | 0 => rfl
  | n + 1 => by rw [z_sum, z_sum, z_sum, ← z_sum_add n]; omega
theorem z_sum_mul {g : Nat → Nat} (c : Nat) : ∀ n, c * z_sum g n = z_sum (fun i => c * g i) n
  | 0 => by rw [z_sum, z_sum, Nat.mul_zero]
  | n + 1 => by rw [z_sum, z_sum, ← z_sum_mul c n, Nat.mul_add]
theorem z_sum_dbl {g : Nat → Nat} : ∀ n, z_sum g (2 * n) = z_sum (fun i => g (2 * i) + g (2 * i + 1)) n
  | 0 => rfl
  | n + 1 => by
    rw [show 2 * (n + 1) = 2 * n + 1 + 1 by omega, z_sum, z_sum, z_sum, z_sum_dbl n]
    omega
theorem z_sum_0 {g : Nat → Nat} : ∀ n, (∀ i, i < n → g i = 0) → z_sum g n = 0
  | 0, _ => rfl
  | n + 1, h => by rw [z_sum, z_sum_0 n (fun i hi => h i (by omega)), h n (by omega)]
def z_bt (X p : Nat) : Nat := if X.testBit p then 1 else 0
def z_ph (f : Nat → Nat) (t : Nat → Nat → Nat) (d1 e1 q1 v1 d2 e2 q2 v2 p X Y : Nat) : Nat := if z_tk q1 v1 p (z_bt X p) && z_tk q2 v2 p (z_bt Y p) then z_nf (z_wi d1 e1 p (t p (X &&& f p))) (z_bt X p) (z_wi d2 e2 p (t p (Y &&& f p))) (z_bt Y p) else 0
def z_pr (φ : Nat → Nat) : Nat → Nat → Nat
  | 0, _ => 1
  | k + 1, p => φ p * z_pr φ k (p + 1)
theorem z_lowb {x p A b : Nat} (hx : x < 2 ^ p) (hb : b < 2) : z_bt (2 ^ p * (2 * A + b) + x) p = b := by
  unfold z_bt
  rw [Nat.testBit_two_pow_mul_add _ hx, if_neg (show ¬ p < p by omega), Nat.sub_self]
  rcases z_b2 hb with rfl | rfl
  · rw [Nat.add_zero]
    have : (2 * A).testBit 0 = false := by rw [Nat.testBit_zero]; simp
    rw [this]; rfl
  · have : (2 * A + 1).testBit 0 = true := by rw [Nat.testBit_zero]; simp
    rw [this]; rfl
theorem z_lowa {x p A F : Nat} (hx : x < 2 ^ p) (hF : F < 2 ^ p) : (2 ^ p * A + x) &&& F = x &&& F := by
  apply Nat.eq_of_testBit_eq
  intro i
  rw [Nat.testBit_and, Nat.testBit_and, Nat.testBit_two_pow_mul_add _ hx]
  by_cases h : i < p
  · rw [if_pos h]
  · rw [z_hi hF (by omega)]; simp
theorem z_orb {x p b : Nat} (hx : x < 2 ^ p) : x ||| b * 2 ^ p = 2 ^ p * b + x := by
  rw [Nat.two_pow_add_eq_or_of_lt hx b, Nat.or_comm, Nat.mul_comm]
theorem z_shift {x p A b : Nat} : 2 ^ (p + 1) * A + (2 ^ p * b + x) = 2 ^ p * (2 * A + b) + x := by
  rw [Nat.pow_succ, Nat.mul_add, Nat.mul_assoc]
  omega
theorem z_small {x p b : Nat} (hx : x < 2 ^ p) (hb : b < 2) : 2 ^ p * b + x < 2 ^ (p + 1) := by
  rw [Nat.pow_succ]
  rcases z_b2 hb with rfl | rfl
  · omega
  · omega
section
variable {f : Nat → Nat} {t : Nat → Nat → Nat} {n : Nat}
theorem z_df_sum (hf : ∀ p, p < n → f p < 2 ^ p) (d1 e1 q1 v1 d2 e2 q2 v2 : Nat) : ∀ k p x y, p + k = n → x < 2 ^ p → y < 2 ^ p → z_df f t d1 e1 q1 v1 d2 e2 q2 v2 k p x y = z_sum (fun A => z_sum (fun B => z_pr (fun p' => z_ph f t d1 e1 q1 v1 d2 e2 q2 v2 p' (2 ^ p * A + x) (2 ^ p * B + y)) k p) (2 ^ k)) (2 ^ k) := by
  intro k
  induction k with
  | zero => intro p x y hp hx hy; rfl
  | succ k ih =>
    intro p x y hp hx hy
    have hfp := hf p (by omega)
    rw [z_df]
    dsimp only
    have term : ∀ b1 b2, b1 < 2 → b2 < 2 → (if z_tk q1 v1 p b1 && z_tk q2 v2 p b2 then z_nf (z_wi d1 e1 p (t p (x &&& f p))) b1 (z_wi d2 e2 p (t p (y &&& f p))) b2 else 0) * z_df f t d1 e1 q1 v1 d2 e2 q2 v2 k (p + 1) (x ||| b1 * 2 ^ p) (y ||| b2 * 2 ^ p) = z_sum (fun A => z_sum (fun B => z_pr (fun p' => z_ph f t d1 e1 q1 v1 d2 e2 q2 v2 p' (2 ^ p * (2 * A + b1) + x) (2 ^ p * (2 * B + b2) + y)) (k + 1) p) (2 ^ k)) (2 ^ k) := by
      intro b1 b2 h1 h2
      rw [z_orb hx, z_orb hy, ih (p + 1) _ _ (by omega) (z_small hx h1) (z_small hy h2), z_sum_mul]
      refine z_sum_congr _ fun A _ => ?_
      rw [z_sum_mul]
      refine z_sum_congr _ fun B _ => ?_
      rw [z_pr, z_shift, z_shift]
      congr 1
      unfold z_ph
      rw [z_lowb hx h1, z_lowb hy h2, z_lowa hx hfp, z_lowa hy hfp]
    rw [term 0 0 (by omega) (by omega), term 0 1 (by omega) (by omega), term 1 0 (by omega) (by omega), term 1 1 (by omega) (by omega), show 2 ^ (k + 1) = 2 * 2 ^ k by rw [Nat.pow_succ]; omega, z_sum_dbl, z_sum_add, z_sum_add, z_sum_add]
    refine z_sum_congr _ fun A _ => ?_
    rw [z_sum_dbl, z_sum_dbl]
    simp only [Nat.add_zero]
    rw [z_sum_add, z_sum_add, z_sum_add, z_sum_add]
    refine z_sum_congr _ fun B _ => ?_
    omega
/-- one place's factor in one world -/
def z_fc (f : Nat → Nat) (t : Nat → Nat → Nat) (d e p X : Nat) : Nat := if X.testBit p then z_wi d e p (t p (X &&& f p)) else 16 - z_wi d e p (t p (X &&& f p))
theorem z_nf00 : ∀ a, a < 17 → z_nf a 0 a 0 = 16 - a ∧ z_nf a 0 a 1 = 0 ∧ z_nf a 1 a 0 = 0 ∧ z_nf a 1 a 1 = a := by decide +kernel
theorem z_df_one (hf : ∀ p, p < n → f p < 2 ^ p) (ht : ∀ p v, t p v ≤ 16) (d e q1 v1 q2 v2 : Nat) : ∀ k p x, p + k = n → x < 2 ^ p → z_df f t d e q1 v1 d e q2 v2 k p x x = z_sum (fun A => z_pr (fun p' => if z_tk q1 v1 p' (z_bt (2 ^ p * A + x) p') && z_tk q2 v2 p' (z_bt (2 ^ p * A + x) p') then z_fc f t d e p' (2 ^ p * A + x) else 0) k p) (2 ^ k) := by
  intro k
  induction k with
  | zero => intro p x hp hx; rfl
  | succ k ih =>
    intro p x hp hx
    have hfp := hf p (by omega)
    have ha : z_wi d e p (t p (x &&& f p)) < 17 := Nat.lt_succ_of_le (z_wi_le (ht _ _))
    obtain ⟨g1, g2, g3, g4⟩ := z_nf00 _ ha
    rw [z_df]
    dsimp only
    rw [g1, g2, g3, g4]
    have term : ∀ b, b < 2 → (if z_tk q1 v1 p b && z_tk q2 v2 p b then (if b = 1 then z_wi d e p (t p (x &&& f p)) else 16 - z_wi d e p (t p (x &&& f p))) else 0) * z_df f t d e q1 v1 d e q2 v2 k (p + 1) (x ||| b * 2 ^ p) (x ||| b * 2 ^ p) = z_sum (fun A => z_pr (fun p' => if z_tk q1 v1 p' (z_bt (2 ^ p * (2 * A + b) + x) p') && z_tk q2 v2 p' (z_bt (2 ^ p * (2 * A + b) + x) p') then z_fc f t d e p' (2 ^ p * (2 * A + b) + x) else 0) (k + 1) p) (2 ^ k) := by
      intro b hb
      rw [z_orb hx, ih (p + 1) _ (by omega) (z_small hx hb), z_sum_mul]
      refine z_sum_congr _ fun A _ => ?_
      rw [z_pr, z_shift]
      congr 1
      have hbt := z_lowb (A := A) hx hb
      rw [hbt]
      unfold z_fc
      rw [z_lowa hx hfp]
      unfold z_bt at hbt
      by_cases c : (2 ^ p * (2 * A + b) + x).testBit p
      · rw [if_pos c] at hbt; rw [if_pos c, if_pos hbt.symm]
      · rw [if_neg c] at hbt; rw [if_neg c, if_neg (show ¬ b = 1 by omega)]
    have t0 := term 0 (by omega)
    have t1 := term 1 (by omega)
    rw [if_neg (show ¬ (0 : Nat) = 1 by omega)] at t0
    rw [if_pos (show (1 : Nat) = 1 from rfl)] at t1
    rw [t0, t1]
    simp only [ite_self, Nat.zero_mul, Nat.add_zero]
    rw [show 2 ^ (k + 1) = 2 * 2 ^ k by rw [Nat.pow_succ]; omega, z_sum_dbl, z_sum_add]
end
theorem z_pr_congr {φ φ' : Nat → Nat} : ∀ k p, (∀ q, p ≤ q → q < p + k → φ q = φ' q) → z_pr φ k p = z_pr φ' k p
  | 0, _, _ => rfl
  | k + 1, p, h => by rw [z_pr, z_pr, h p (by omega) (by omega), z_pr_congr k (p + 1) (fun q h1 h2 => h q (by omega) (by omega))]
theorem z_pr_zero {φ : Nat → Nat} : ∀ k p q, p ≤ q → q < p + k → φ q = 0 → z_pr φ k p = 0
  | 0, p, q, h1, h2, _ => by omega
  | k + 1, p, q, h1, h2, h => by
    rw [z_pr]
    by_cases e : q = p
    · subst e; rw [h, Nat.zero_mul]
    · rw [z_pr_zero k (p + 1) q (by omega) (by omega) h, Nat.mul_zero]
theorem z_pr_if {C : Nat → Bool} {φ : Nat → Nat} {n : Nat} : z_pr (fun p => if C p then φ p else 0) n 0 = if (∀ p, p < n → C p = true) then z_pr φ n 0 else 0 := by
  by_cases h : ∀ p, p < n → C p = true
  · rw [if_pos h]
    exact z_pr_congr n 0 (fun q _ hq => by rw [if_pos (h q (by omega))])
  · rw [if_neg h]
    have : ∃ p, p < n ∧ ¬ C p = true := by
      rcases Classical.em (∃ p, p < n ∧ ¬ C p = true) with q | q
      · exact q
      · exact absurd (fun p hp => Classical.byContradiction fun z => q ⟨p, hp, z⟩) h
    obtain ⟨p, h1, h2⟩ := this
    exact z_pr_zero n 0 p (by omega) (by omega) (by rw [if_neg h2])
theorem z_tk_iff {q v X n : Nat} (hq : q < 2 ^ n) (hv : v &&& q = v) (hX : X < 2 ^ n) : (∀ p, p < n → z_tk q v p (z_bt X p) = true) ↔ X &&& q = v := by
  have hv2 : v < 2 ^ n := by rw [← hv]; exact Nat.lt_of_le_of_lt Nat.and_le_right hq
  constructor
  · intro hh
    apply z_ext (n := n) (Nat.lt_of_le_of_lt Nat.and_le_left hX) hv2
    intro p hp
    have := hh p hp
    rw [Nat.testBit_and]
    have e : (v &&& q).testBit p = v.testBit p := by rw [hv]
    rw [Nat.testBit_and] at e
    unfold z_tk z_bt at this
    cases a : q.testBit p <;> cases b : X.testBit p <;> cases c : v.testBit p <;> simp [a, b, c] at this e ⊢
  · intro e p hp
    have e1 : (X &&& q).testBit p = v.testBit p := by rw [e]
    rw [Nat.testBit_and] at e1
    unfold z_tk z_bt
    cases a : q.testBit p <;> cases b : X.testBit p <;> cases c : v.testBit p <;> simp [a, b, c] at e1 ⊢
