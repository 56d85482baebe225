/-! lowest terms, and the odds -/
theorem z_2mod {l r : Nat} (h0 : 0 < r) (h : r ≤ l) : 2 * (l % r) < l + 1 - 1 + 1 ∧ 2 * (l % r) < l + (if l % r = 0 then 1 else 0) := by
  have h1 := Nat.mod_lt l h0
  have h2 := Nat.div_add_mod l r
  have h3 : 1 ≤ l / r := (Nat.le_div_iff_mul_le h0).mpr (by omega)
  have h4 : r * 1 ≤ r * (l / r) := Nat.mul_le_mul_left r h3
  constructor
  · omega
  · split <;> omega
theorem z_gcdS {a b : Nat} : Nat.gcd a b = Nat.gcd b (a % b) := by
  rw [Nat.gcd_comm a b, Nat.gcd_rec b a, Nat.gcd_comm]
/-- the class's loop: after two turns the lesser is less than half -/
theorem z_cm_loop : ∀ k g l st fuel, l < 2 ^ k → 0 < g → g < 2 ^ 30 → l ≤ g → st + 2 * k + 1 ≤ 64 → 2 * k + 1 < fuel → fA_commonMeasure_7 fuel (nI g) (nI l) (nI st) = some (nI (Nat.gcd g l))
  | 0, g, l, st, fuel, hl, h0, hg, hlg, hs, hf => by
    obtain ⟨m, rfl⟩ := z_suc hf
    have e : l = 0 := by omega
    subst e
    rw [fA_commonMeasure_7, show (64 : Int32) = nI 64 from rfl, if_neg (nI_ge (by omega) (by omega)), if_pos (by rfl), Nat.gcd_zero_right]
    rw [show (1 : Int32) = nI 1 from rfl]
    by_cases c : 1 < g
    · rw [if_pos (nI_lt c (by omega))]
    · rw [if_neg (nI_nlt (by omega) (by omega)), show g = 1 by omega]
  | k + 1, g, l, st, fuel, hl, h0, hg, hlg, hs, hf => by
    obtain ⟨m, rfl⟩ := z_suc hf
    by_cases e : l = 0
    · subst e
      rw [fA_commonMeasure_7, show (64 : Int32) = nI 64 from rfl, if_neg (nI_ge (by omega) (by omega)), if_pos (by rfl), Nat.gcd_zero_right]
      rw [show (1 : Int32) = nI 1 from rfl]
      by_cases c : 1 < g
      · rw [if_pos (nI_lt c (by omega))]
      · rw [if_neg (nI_nlt (by omega) (by omega)), show g = 1 by omega]
    · have nl : ¬ nI l = 0 := fun q => e ((z_nz (by omega)).mp q)
      rw [fA_commonMeasure_7, show (64 : Int32) = nI 64 from rfl, if_neg (nI_ge (by omega) (by omega)), if_neg nl, if_neg nl, pk_rem (by omega) (by omega) (by omega), z_inc, z_gcdS]
      have hr := Nat.mod_lt g (show 0 < l by omega)
      obtain ⟨m', rfl⟩ : ∃ m', m = m' + 1 := ⟨m - 1, by omega⟩
      by_cases e2 : g % l = 0
      · rw [e2, fA_commonMeasure_7, show (64 : Int32) = nI 64 from rfl, if_neg (nI_ge (by omega) (by omega)), if_pos (by rfl), Nat.gcd_zero_right]
        rw [show (1 : Int32) = nI 1 from rfl]
        by_cases c : 1 < l
        · rw [if_pos (nI_lt c (by omega))]
        · rw [if_neg (nI_nlt (by omega) (by omega)), show l = 1 by omega]
      · have nr : ¬ nI (g % l) = 0 := fun q => e2 ((z_nz (by omega)).mp q)
        rw [fA_commonMeasure_7, show (64 : Int32) = nI 64 from rfl, if_neg (nI_ge (by omega) (by omega)), if_neg nr, if_neg nr, pk_rem (by omega) (by omega) (by omega), z_inc, z_gcdS]
        have h2 := (z_2mod (l := l) (r := g % l) (by omega) (by omega)).1
        have hlt := Nat.mod_lt l (show 0 < g % l by omega)
        exact z_cm_loop k (g % l) (l % (g % l)) (st + 1 + 1) m' (by rw [Nat.pow_succ] at hl; omega) (by omega) (by omega) (by omega) (by omega) (by omega)
theorem z_cm {a b : Nat} (hb : 0 < b) (hb2 : b < 2 ^ 25) (hab : a ≤ b) : fA_commonMeasure (nI a) (nI b) = some (nI (Nat.gcd a b)) := by
  unfold fA_commonMeasure
  rw [show (0 : Int32) = nI 0 from rfl, z_cm_loop 25 b a 0 x_F (by omega) hb (by omega) hab (by omega) (by unfold x_F; omega), Nat.gcd_comm]
theorem z_lnz {m : Nat} (h : m < 2 ^ 63) : lN m = 0 ↔ m = 0 := by
  have := pk_lEQ (a := m) (b := 0) h (by omega)
  exact this
theorem z_dv_loop : ∀ k g l fuel, l ≤ k → k < fuel → g < 2 ^ 30 → l < 2 ^ 30 → fM_divisor_6 fuel (lN g) (lN l) = some (lN (Nat.gcd g l))
  | 0, g, l, fuel, hl, hf, hg, hl2 => by
    obtain ⟨m, rfl⟩ := z_suc hf
    have e : l = 0 := by omega
    subst e
    rw [fM_divisor_6, if_pos (show lg_cmp (lN 0) 0 = 0 from (lg_cmp_eq _ _).mpr rfl), Nat.gcd_zero_right]
  | k + 1, g, l, fuel, hl, hf, hg, hl2 => by
    obtain ⟨m, rfl⟩ := z_suc hf
    by_cases e : l = 0
    · subst e
      rw [fM_divisor_6, if_pos (show lg_cmp (lN 0) 0 = 0 from (lg_cmp_eq _ _).mpr rfl), Nat.gcd_zero_right]
    · have nl : ¬ lN l = 0 := fun q => e ((z_lnz (by omega)).mp q)
      have hr := Nat.mod_lt g (show 0 < l by omega)
      rw [fM_divisor_6, if_neg (fun q => nl ((lg_cmp_eq _ _).mp q)), if_neg nl, pk_lRem (by omega) (by omega) (by omega), z_gcdS]
      exact z_dv_loop k l (g % l) m (by omega) (by omega) (by omega) (by omega)
theorem z_dv {a b : Nat} (ha : a < 2 ^ 25) (hb : b < 2 ^ 25) : fM_divisor (lN a) (lN b) = some (lN (Nat.gcd a b)) := by
  unfold fM_divisor
  exact z_dv_loop b a b x_F (by omega) (by unfold x_F; omega) (by omega) (by omega)
theorem z_part {a b part : Nat} (hp : part < 2) (ha : a < 2 ^ 25) (hb : b < 2 ^ 25) (h0 : 0 < b) : fM_part (lN a) (lN b) (nI part) = some (nI (if part = 0 then a / Nat.gcd a b else b / Nat.gcd a b)) := by
  have hg : 0 < Nat.gcd a b := Nat.gcd_pos_of_pos_right a h0
  have hg2 : Nat.gcd a b ≤ b := Nat.le_of_dvd h0 (Nat.gcd_dvd_right a b)
  have ng : ¬ lN (Nat.gcd a b) = 0 := fun q => by have := (z_lnz (by omega)).mp q; omega
  unfold fM_part
  rw [z_dv ha hb, Option.bind_some, if_neg ng, if_neg ng, pk_lDiv (by omega) hg (by omega), pk_lDiv (by omega) hg (by omega), lN_i, lN_i]
  rcases z_b2 hp with rfl | rfl
  · rfl
  · rfl
def z_S1 (f : Nat → Nat) (t : Nat → Nat → Nat) (n d e : Nat) (C : Nat → Bool) : Nat := z_sum (fun X => if C X then z_pr (fun p => z_fc f t d e p X) n 0 else 0) (2 ^ n)
def z_S2 (f : Nat → Nat) (t : Nat → Nat → Nat) (n d1 e1 d2 e2 : Nat) (C C' : Nat → Bool) : Nat := z_sum (fun X => if C X then z_sum (fun Y => if C' Y then z_pr (fun p => z_nf (z_wi d1 e1 p (t p (X &&& f p))) (z_bt X p) (z_wi d2 e2 p (t p (Y &&& f p))) (z_bt Y p)) n 0 else 0) (2 ^ n) else 0) (2 ^ n)
section
variable {f : Nat → Nat} {t : Nat → Nat → Nat} {n : Nat}
theorem z_df1 (hf : ∀ p, p < n → f p < 2 ^ p) (ht : ∀ p v, t p v ≤ 16) {d e q1 v1 q2 v2 : Nat} (h1 : q1 < 2 ^ n) (h2 : v1 &&& q1 = v1) (h3 : q2 < 2 ^ n) (h4 : v2 &&& q2 = v2) : z_df f t d e q1 v1 d e q2 v2 n 0 0 0 = z_S1 f t n d e (fun X => decide (X &&& q1 = v1) && decide (X &&& q2 = v2)) := by
  rw [z_df_one hf ht d e q1 v1 q2 v2 n 0 0 (by omega) (by simp)]
  unfold z_S1
  refine z_sum_congr _ fun X hX => ?_
  have e0 : 2 ^ 0 * X + 0 = X := by simp
  rw [e0, z_pr_if]
  by_cases c : X &&& q1 = v1 ∧ X &&& q2 = v2
  · rw [if_pos (fun p hp => by rw [(z_tk_iff h1 h2 hX).mpr c.1 p hp, (z_tk_iff h3 h4 hX).mpr c.2 p hp]; rfl)]
    simp [c.1, c.2]
  · rw [if_neg]
    · by_cases c1 : X &&& q1 = v1
      · have c2 : ¬ X &&& q2 = v2 := fun z => c ⟨c1, z⟩
        simp [c2]
      · simp [c1]
    · intro hh
      apply c
      have hh' : ∀ p, p < n → z_tk q1 v1 p (z_bt X p) = true ∧ z_tk q2 v2 p (z_bt X p) = true := fun p hp => by
        have := hh p hp
        rw [Bool.and_eq_true] at this
        exact this
      exact ⟨(z_tk_iff h1 h2 hX).mp fun p hp => (hh' p hp).1, (z_tk_iff h3 h4 hX).mp fun p hp => (hh' p hp).2⟩
theorem z_df2 (hf : ∀ p, p < n → f p < 2 ^ p) {d1 e1 q1 v1 d2 e2 q2 v2 : Nat} (h1 : q1 < 2 ^ n) (h2 : v1 &&& q1 = v1) (h3 : q2 < 2 ^ n) (h4 : v2 &&& q2 = v2) : z_df f t d1 e1 q1 v1 d2 e2 q2 v2 n 0 0 0 = z_S2 f t n d1 e1 d2 e2 (fun X => decide (X &&& q1 = v1)) (fun Y => decide (Y &&& q2 = v2)) := by
  rw [z_df_sum hf d1 e1 q1 v1 d2 e2 q2 v2 n 0 0 0 (by omega) (by simp) (by simp)]
  unfold z_S2
  refine z_sum_congr _ fun X hX => ?_
  have e0 : 2 ^ 0 * X + 0 = X := by simp
  have inner : ∀ Y, Y < 2 ^ n → z_pr (fun p' => z_ph f t d1 e1 q1 v1 d2 e2 q2 v2 p' (2 ^ 0 * X + 0) (2 ^ 0 * Y + 0)) n 0 = if decide (X &&& q1 = v1) = true then (if decide (Y &&& q2 = v2) = true then z_pr (fun p => z_nf (z_wi d1 e1 p (t p (X &&& f p))) (z_bt X p) (z_wi d2 e2 p (t p (Y &&& f p))) (z_bt Y p)) n 0 else 0) else 0 := by
    intro Y hY
    have e1' : 2 ^ 0 * Y + 0 = Y := by simp
    rw [e0, e1']
    unfold z_ph
    rw [z_pr_if]
    by_cases c : X &&& q1 = v1 ∧ Y &&& q2 = v2
    · rw [if_pos (fun p hp => by rw [(z_tk_iff h1 h2 hX).mpr c.1 p hp, (z_tk_iff h3 h4 hY).mpr c.2 p hp]; rfl)]
      simp [c.1, c.2]
    · rw [if_neg]
      · by_cases c1 : X &&& q1 = v1
        · have c2 : ¬ Y &&& q2 = v2 := fun z => c ⟨c1, z⟩
          simp [c2]
        · simp [c1]
      · intro hh
        apply c
        have hh' : ∀ p, p < n → z_tk q1 v1 p (z_bt X p) = true ∧ z_tk q2 v2 p (z_bt Y p) = true := fun p hp => by
          have := hh p hp
          rw [Bool.and_eq_true] at this
          exact this
        exact ⟨(z_tk_iff h1 h2 hX).mp fun p hp => (hh' p hp).1, (z_tk_iff h3 h4 hY).mp fun p hp => (hh' p hp).2⟩
  rw [z_sum_congr (2 ^ n) inner]
  by_cases c : X &&& q1 = v1
  · simp [c]
  · simp only [c, decide_false, Bool.false_eq_true, if_false]
    exact z_sum_0 _ fun _ _ => rfl
/-- bounds -/
theorem z_fc_le (ht : ∀ p v, t p v ≤ 16) {d e p X : Nat} : z_fc f t d e p X ≤ 16 := by
  unfold z_fc
  split
  · exact z_wi_le (ht _ _)
  · omega
theorem z_df_le (ht : ∀ p v, t p v ≤ 16) {d1 e1 q1 v1 d2 e2 q2 v2 : Nat} : ∀ k p x y, z_df f t d1 e1 q1 v1 d2 e2 q2 v2 k p x y ≤ 16 ^ k
  | 0, _, _, _ => Nat.le_refl _
  | k + 1, p, x, y => by
    rw [z_df]
    dsimp only
    have ha : z_wi d1 e1 p (t p (x &&& f p)) < 17 := Nat.lt_succ_of_le (z_wi_le (ht _ _))
    have hc : z_wi d2 e2 p (t p (y &&& f p)) < 17 := Nat.lt_succ_of_le (z_wi_le (ht _ _))
    generalize z_wi d1 e1 p (t p (x &&& f p)) = a at ha ⊢
    generalize z_wi d2 e2 p (t p (y &&& f p)) = c at hc ⊢
    have tot : ∀ a, a < 17 → ∀ c, c < 17 → z_nf a 0 c 0 + z_nf a 0 c 1 + z_nf a 1 c 0 + z_nf a 1 c 1 = 16 := by decide +kernel
    have hb : ∀ b1 b2, (if z_tk q1 v1 p b1 && z_tk q2 v2 p b2 then z_nf a b1 c b2 else 0) * z_df f t d1 e1 q1 v1 d2 e2 q2 v2 k (p + 1) (x ||| b1 * 2 ^ p) (y ||| b2 * 2 ^ p) ≤ z_nf a b1 c b2 * 16 ^ k := by
      intro b1 b2
      refine Nat.mul_le_mul ?_ (z_df_le ht k _ _ _)
      split
      · exact Nat.le_refl _
      · exact Nat.zero_le _
    have h1 := hb 0 0
    have h2 := hb 0 1
    have h3 := hb 1 0
    have h4 := hb 1 1
    have e : z_nf a 0 c 0 * 16 ^ k + z_nf a 0 c 1 * 16 ^ k + z_nf a 1 c 0 * 16 ^ k + z_nf a 1 c 1 * 16 ^ k = 16 ^ (k + 1) := by
      rw [← Nat.add_mul, ← Nat.add_mul, ← Nat.add_mul, tot a ha c hc, Nat.pow_succ, Nat.mul_comm]
    omega
end
