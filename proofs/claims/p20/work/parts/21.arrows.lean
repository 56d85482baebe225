/-! the class's Arrows, as numbers -/
def z_arr (w : x_W) (a n : Nat) (f : Nat → Nat) : Prop := n ≤ 6 ∧ (∀ p, p < n → f p < 2 ^ p) ∧ x_ob w a 1 = some () ∧ x_fi w a 1 0 = some (nI n) ∧ ∃ pa, x_fr w a 1 1 = some pa ∧ ∀ p, p < n → x_ai w pa (nI p) = some (nI (f p))
theorem z_suc {fuel k : Nat} (h : k < fuel) : ∃ m, fuel = m + 1 := ⟨fuel - 1, by omega⟩
theorem z_f64 {n p : Nat} {f : Nat → Nat} (hn : n ≤ 6) (hf : ∀ p, p < n → f p < 2 ^ p) (hp : p < n) : f p < 64 := Nat.lt_of_lt_of_le (hf p hp) (z_pow (by omega))
theorem z_mk64 {P : Nat → Bool} {n : Nat} (h : n ≤ 6) : z_mk P n < 64 := Nat.lt_of_lt_of_le (z_mk_lt P n) (z_pow h)
theorem z_mk_0 {P : Nat → Bool} : ∀ n, (∀ j, j < n → P j = false) → z_mk P n = 0
  | 0, _ => rfl
  | n + 1, h => by rw [z_mk, z_mk_0 n (fun j hj => h j (by omega)), h n (by omega)]; simp
section
variable {w : x_W} {a n : Nat} {f : Nat → Nat}
theorem z_children {p : Nat} (h : z_arr w a n f) (hp : p < n) : fR_childrenOf w a (nI p) = some (nI (z_mk (fun j => (f j).testBit p) n)) := by
  obtain ⟨hn, hf, hob, hfi, pa, hfr, hai⟩ := h
  have loop : ∀ k q fuel, q + k = n → k < fuel → fR_childrenOf_6 w fuel a (nI p) (nI (z_mk (fun j => (f j).testBit p) q)) (nI q) = some (nI (z_mk (fun j => (f j).testBit p) n)) := by
    intro k
    induction k with
    | zero =>
      intro q fuel hq hk
      obtain ⟨m, rfl⟩ := z_suc hk
      rw [fR_childrenOf_6, hfi, Option.bind_some, if_pos (nI_le (by omega) (by omega))]
      rw [show q = n by omega]
    | succ k ih =>
      intro q fuel hq hk
      obtain ⟨m, rfl⟩ := z_suc hk
      have hlt : q < n := by omega
      rw [fR_childrenOf_6, hfi, Option.bind_some, if_neg (nI_ge hlt (by omega)), hfr, Option.bind_some, hai q hlt, Option.bind_some, z_has _ (z_f64 hn hf hlt) _ (by omega), z_bit q (by omega), z_or, z_inc]
      have := ih (q + 1) m (by omega) (by omega)
      rw [z_mk] at this
      by_cases hb : (f q).testBit p
      · rw [if_pos hb] at this
        rw [if_pos hb, if_neg (by decide)]
        exact this
      · rw [if_neg hb, Nat.or_zero] at this
        rw [if_neg hb, if_pos rfl]
        exact this
  unfold fR_childrenOf
  have h0 : z_mk (fun j => (f j).testBit p) (p + 1) = 0 := z_mk_0 _ (fun j hj => z_hi (hf j (by omega)) (by omega))
  have := loop (n - (p + 1)) (p + 1) x_F (by omega) (by unfold x_F; omega)
  rw [h0, nI_0] at this
  rw [z_inc]
  exact this
/-- what arrows lead to from p, going on through the places of thr alone: those below q -/
def z_rc (f : Nat → Nat) (thr p : Nat) : Nat → Nat
  | 0 => 0
  | q + 1 => z_rc f thr p q ||| (if f q &&& ((z_rc f thr p q &&& thr) ||| 2 ^ p) = 0 then 0 else 2 ^ q)
theorem z_rc_lt (thr p : Nat) : ∀ q, z_rc f thr p q < 2 ^ q
  | 0 => by simp [z_rc]
  | q + 1 => by
    rw [z_rc]
    have h2 : (if f q &&& ((z_rc f thr p q &&& thr) ||| 2 ^ p) = 0 then 0 else 2 ^ q) < 2 ^ (q + 1) := by
      split
      · exact Nat.two_pow_pos _
      · exact Nat.pow_lt_pow_right (by omega) (by omega)
    exact Nat.or_lt_two_pow (Nat.lt_of_lt_of_le (z_rc_lt thr p q) (Nat.pow_le_pow_right (by omega) (by omega))) h2
theorem z_rc_bit (thr p : Nat) : ∀ n q, (z_rc f thr p n).testBit q = (decide (q < n) && !decide (f q &&& ((z_rc f thr p q &&& thr) ||| 2 ^ p) = 0))
  | 0, q => by simp [z_rc]
  | n + 1, q => by
    rw [z_rc, Nat.testBit_or, z_rc_bit thr p n q]
    by_cases e : n = q
    · subst e
      by_cases h : f n &&& ((z_rc f thr p n &&& thr) ||| 2 ^ p) = 0
      · simp [h]
      · simp [h, Nat.testBit_two_pow]
    · have e2 : (q < n + 1) ↔ (q < n) := by omega
      by_cases h : f n &&& ((z_rc f thr p n &&& thr) ||| 2 ^ p) = 0
      · simp [h, e2]
      · simp [h, e2, Nat.testBit_two_pow, e]
theorem z_and_bit {x p : Nat} (h : x < 2 ^ p) : x &&& 2 ^ p = 0 := by
  apply Nat.eq_of_testBit_eq
  intro i
  rw [Nat.testBit_and, Nat.testBit_two_pow, Nat.zero_testBit]
  by_cases e : p = i
  · subst e; simp [Nat.testBit_lt_two_pow h]
  · simp [e]
theorem z_rc_0 (thr p : Nat) : ∀ q, q ≤ p + 1 → (∀ j, j ≤ p → f j < 2 ^ j) → z_rc f thr p q = 0
  | 0, _, _ => rfl
  | q + 1, h, hf => by
    rw [z_rc, z_rc_0 thr p q (by omega) hf, Nat.zero_and, Nat.zero_or, Nat.zero_or, if_pos]
    exact z_and_bit (Nat.lt_of_lt_of_le (hf q (by omega)) (Nat.pow_le_pow_right (by omega) (by omega)))
theorem z_63 {x : Nat} (h : x < 64) : x &&& 63 = x := by
  have := Nat.and_two_pow_sub_one_eq_mod x 6
  rw [show (2 : Nat) ^ 6 - 1 = 63 by decide] at this
  rw [this]; exact Nat.mod_eq_of_lt h
theorem z_after {p : Nat} (h : z_arr w a n f) (hp : p < n) : fR_afterOf w a (nI p) = some (nI (z_rc f 63 p n)) := by
  obtain ⟨hn, hf, hob, hfi, pa, hfr, hai⟩ := h
  have loop : ∀ k q fuel, q + k = n → k < fuel → fR_afterOf_6 w fuel a (nI p) (nI (z_rc f 63 p q)) (nI q) = some (nI (z_rc f 63 p n)) := by
    intro k
    induction k with
    | zero =>
      intro q fuel hq hk
      obtain ⟨m, rfl⟩ := z_suc hk
      rw [fR_afterOf_6, hfi, Option.bind_some, if_pos (nI_le (by omega) (by omega))]
      rw [show q = n by omega]
    | succ k ih =>
      intro q fuel hq hk
      obtain ⟨m, rfl⟩ := z_suc hk
      have hlt : q < n := by omega
      have hr : z_rc f 63 p q < 64 := Nat.lt_of_lt_of_le (z_rc_lt 63 p q) (z_pow (by omega))
      rw [fR_afterOf_6, hfi, Option.bind_some, if_neg (nI_ge hlt (by omega)), hfr, Option.bind_some, hai q hlt, Option.bind_some, z_bit p (by omega), z_bit q (by omega), z_or, z_or, z_and, z_inc]
      have := ih (q + 1) m (by omega) (by omega)
      rw [z_rc, z_63 hr] at this
      have hx : f q &&& (z_rc f 63 p q ||| 2 ^ p) < 2 ^ 31 := Nat.lt_of_le_of_lt Nat.and_le_left (Nat.lt_trans (z_f64 hn hf hlt) (by omega))
      by_cases hb : f q &&& (z_rc f 63 p q ||| 2 ^ p) = 0
      · rw [if_pos hb, Nat.or_zero] at this
        rw [if_pos ((z_nz hx).mpr hb)]
        exact this
      · rw [if_neg hb] at this
        rw [if_neg (fun e => hb ((z_nz hx).mp e))]
        exact this
  unfold fR_afterOf
  have := loop (n - (p + 1)) (p + 1) x_F (by omega) (by unfold x_F; omega)
  rw [z_rc_0 63 p (p + 1) (by omega) (fun j hj => hf j (by omega)), nI_0] at this
  rw [z_inc]
  exact this
theorem z_beside {p q : Nat} (h : z_arr w a n f) (hp : p < n) (hq : q < n) : fR_isBeside w a (nI p) (nI q) = some (if (f p).testBit q || (f q).testBit p then 1 else 0) := by
  obtain ⟨hn, hf, hob, hfi, pa, hfr, hai⟩ := h
  unfold fR_isBeside
  rw [hfr, Option.bind_some, hai p hp, Option.bind_some, z_has _ (z_f64 hn hf hp) _ (by omega), hai q hq, Option.bind_some, z_has _ (z_f64 hn hf hq) _ (by omega)]
  by_cases h1 : (f p).testBit q <;> by_cases h2 : (f q).testBit p <;> simp [h1, h2]
theorem z_besideOf {p : Nat} (h : z_arr w a n f) (hp : p < n) : fR_besideOf w a (nI p) = some (nI (f p ||| z_mk (fun j => (f j).testBit p) n)) := by
  have hc := z_children h hp
  obtain ⟨hn, hf, hob, hfi, pa, hfr, hai⟩ := h
  unfold fR_besideOf
  rw [hfr, Option.bind_some, hai p hp, Option.bind_some, hc, Option.bind_some, z_or]
/-- whether a way goes on at a place: last, the place, the next -/
def z_op (f : Nat → Nat) (n z l m q : Nat) : Bool := if (f m).testBit l && (f m).testBit q then !decide (z &&& (2 ^ m ||| z_rc f 63 m n) = 0) else !(z.testBit m)
theorem z_openAt {l m q z : Nat} (h : z_arr w a n f) (hl : l < n) (hm : m < n) (hq : q < n) (hz : z < 64) : fR_isOpenAt w a (nI l) (nI m) (nI q) (nI z) = some (if z_op f n z l m q then 1 else 0) := by
  have ha := z_after h hm
  obtain ⟨hn, hf, hob, hfi, pa, hfr, hai⟩ := h
  unfold fR_isOpenAt z_op
  rw [if_neg (fun e : nI l = -1 => by
    have h1 : (nI l).toInt = (l : Int) := nI_toInt (by omega)
    rw [e] at h1
    have h2 : (-1 : Int32).toInt = -1 := by decide
    omega), hfr, Option.bind_some, hai m hm, Option.bind_some, z_has _ (z_f64 hn hf hm) _ (by omega), z_has _ (z_f64 hn hf hm) _ (by omega), z_has _ hz _ (by omega), ha, Option.bind_some, z_bit m (by omega), z_or, z_and]
  have hx : z &&& (2 ^ m ||| z_rc f 63 m n) < 2 ^ 31 := Nat.lt_of_le_of_lt Nat.and_le_left (by omega)
  by_cases h1 : (f m).testBit l <;> by_cases h2 : (f m).testBit q <;> by_cases h3 : z.testBit m <;> by_cases h4 : z &&& (2 ^ m ||| z_rc f 63 m n) = 0 <;> simp [h1, h2, h3, h4, z_nz hx, nI_0]
end
