/-! the class's ways, and what leads past a set, as numbers -/
def z_sum (g : Nat → Nat) : Nat → Nat
  | 0 => 0
  | n + 1 => z_sum g n + g n
def z_opl (f : Nat → Nat) (n z : Nat) (last : Option Nat) (m q : Nat) : Bool := match last with
  | none => true
  | some l => z_op f n z l m q
def z_ow (f : Nat → Nat) (n z goal : Nat) : Nat → Option Nat → Nat → Nat → Nat
  | 0, _, m, _ => if m = goal then 1 else 0
  | d + 1, last, m, been => if m = goal then 1 else z_sum (fun q => if !been.testBit q && ((f m).testBit q || (f q).testBit m) && z_opl f n z last m q then z_ow f n z goal d (some m) q (been ||| 2 ^ q) else 0) n
theorem z_sum_le {g : Nat → Nat} {B : Nat} (h : ∀ q, g q ≤ B) : ∀ n, z_sum g n ≤ n * B
  | 0 => by simp [z_sum]
  | n + 1 => by
    rw [z_sum, Nat.add_mul, Nat.one_mul]
    exact Nat.add_le_add (z_sum_le h n) (h n)
theorem z_sum_congr {g g' : Nat → Nat} : ∀ n, (∀ q, q < n → g q = g' q) → z_sum g n = z_sum g' n
  | 0, _ => rfl
  | n + 1, h => by rw [z_sum, z_sum, z_sum_congr n (fun q hq => h q (by omega)), h n (by omega)]
theorem z_ow_le {f : Nat → Nat} {n z goal : Nat} (hn : n ≤ 6) : ∀ d last m been, z_ow f n z goal d last m been ≤ 6 ^ d
  | 0, last, m, been => by rw [z_ow]; split <;> simp
  | d + 1, last, m, been => by
    rw [z_ow]
    split
    · exact Nat.one_le_pow _ _ (by omega)
    · refine Nat.le_trans (z_sum_le (B := 6 ^ d) (fun q => ?_) n) ?_
      · split
        · exact z_ow_le hn d _ _ _
        · exact Nat.zero_le _
      · rw [Nat.pow_succ, Nat.mul_comm]
        exact Nat.mul_le_mul_left _ hn
def z_li : Option Nat → Int32
  | none => -1
  | some l => nI l
theorem z_cpl : ∀ s, s < 64 → ∀ i, i < 6 → (63 - s).testBit i = !s.testBit i := by decide +kernel
theorem z_or64 {x q : Nat} (hx : x < 64) (hq : q < 6) : x ||| 2 ^ q < 64 := by
  have : x ||| 2 ^ q < 2 ^ 6 := Nat.or_lt_two_pow hx (Nat.pow_lt_pow_right (by omega) hq)
  exact this
section
variable {w : x_W} {a n : Nat} {f : Nat → Nat}
theorem z_openL {last : Option Nat} {m q z : Nat} (h : z_arr w a n f) (hl : ∀ l, last = some l → l < n) (hm : m < n) (hq : q < n) (hz : z < 64) : fR_isOpenAt w a (z_li last) (nI m) (nI q) (nI z) = some (if z_opl f n z last m q then 1 else 0) := by
  cases last with
  | none => unfold fR_isOpenAt z_li z_opl; simp
  | some l => exact z_openAt h (hl l rfl) hm hq hz
theorem z_waysOn {z goal : Nat} (h : z_arr w a n f) (hz : z < 64) (hg : goal < n) : ∀ (d depth k : Nat) (last : Option Nat) (m been : Nat), d + depth = n → d < k → (∀ l, last = some l → l < n) → m < n → been < 64 → fR_openWaysOn w k a (z_li last) (nI m) (nI goal) (nI been) (nI z) (nI depth) = some (nI (z_ow f n z goal d last m been)) := by
  intro d
  induction d with
  | zero =>
    intro depth k last m been hd hk hl hm hb
    have hfi := h.2.2.2.1
    have hn := h.1
    obtain ⟨k, rfl⟩ := z_suc hk
    rw [fR_openWaysOn, z_ow]
    by_cases e : m = goal
    · rw [if_pos (by rw [e]), if_pos e]; rfl
    · rw [if_neg (fun q => e ((nI_eq (by omega) (by omega)).mp q)), if_neg e, hfi, Option.bind_some, if_neg (nI_nlt (by omega) (by omega))]
      rw [nI_0]
  | succ d ih =>
    intro depth k last m been hd hk hl hm hb
    have hfi := h.2.2.2.1
    have hn := h.1
    obtain ⟨k, rfl⟩ := z_suc hk
    rw [fR_openWaysOn, z_ow]
    by_cases e : m = goal
    · rw [if_pos (by rw [e]), if_pos e]; rfl
    · rw [if_neg (fun q => e ((nI_eq (by omega) (by omega)).mp q)), if_neg e, hfi, Option.bind_some, if_pos (nI_lt (by omega) (by omega))]
      have loop : ∀ j q fuel, q + j = n → j < fuel → fR_openWaysOn_24 w (fR_openWaysOn w k) fuel a (z_li last) (nI m) (nI goal) (nI been) (nI z) (nI depth) (nI (z_sum (fun q => if !been.testBit q && ((f m).testBit q || (f q).testBit m) && z_opl f n z last m q then z_ow f n z goal d (some m) q (been ||| 2 ^ q) else 0) q)) (nI q) = some (nI (z_sum (fun q => if !been.testBit q && ((f m).testBit q || (f q).testBit m) && z_opl f n z last m q then z_ow f n z goal d (some m) q (been ||| 2 ^ q) else 0) n)) := by
        intro j
        induction j with
        | zero =>
          intro q fuel hq hj
          obtain ⟨mm, rfl⟩ := z_suc hj
          rw [fR_openWaysOn_24, hfi, Option.bind_some, if_pos (nI_le (by omega) (by omega))]
          rw [show q = n by omega]
        | succ j ihj =>
          intro q fuel hq hj
          obtain ⟨mm, rfl⟩ := z_suc hj
          have hlt : q < n := by omega
          have next := ihj (q + 1) mm (by omega) (by omega)
          rw [z_sum] at next
          rw [fR_openWaysOn_24, hfi, Option.bind_some, if_neg (nI_ge hlt (by omega)), z_has _ hb _ (by omega), z_beside h hm hlt, Option.bind_some, z_openL h hl hm hlt hz, Option.bind_some, z_bit q (by omega), z_or, z_inc, z_inc]
          by_cases b1 : been.testBit q
          · simp only [b1, Bool.not_true, Bool.false_and, Bool.false_eq_true, if_false, Nat.add_zero] at next
            simp only [b1, if_true]
            rw [if_neg (by decide)]
            exact next
          · rw [if_neg b1, if_pos rfl]
            by_cases b2 : (f m).testBit q || (f q).testBit m
            · rw [if_pos b2, if_neg (by decide)]
              by_cases b3 : z_opl f n z last m q
              · rw [if_pos b3, if_neg (by decide)]
                simp only [b1, b2, b3, Bool.not_false, Bool.and_self, if_true] at next
                have hrec := ih (depth + 1) k (some m) q (been ||| 2 ^ q) (by omega) (by omega) (fun l hl => by cases hl; exact hm) hlt (z_or64 hb (by omega))
                have hrec : fR_openWaysOn w k a (nI m) (nI q) (nI goal) (nI (been ||| 2 ^ q)) (nI z) (nI (depth + 1)) = some (nI (z_ow f n z goal d (some m) q (been ||| 2 ^ q))) := hrec
                rw [hrec, Option.bind_some, nI_add]
                exact next
              · rw [if_neg b3, if_pos rfl]
                simp only [b3, Bool.and_false, Bool.false_eq_true, if_false, Nat.add_zero] at next
                exact next
            · rw [if_neg b2, if_pos rfl]
              simp only [b2, Bool.and_false, Bool.false_and, Bool.false_eq_true, if_false, Nat.add_zero] at next
              exact next
      have := loop n 0 x_F (by omega) (by unfold x_F; omega)
      rw [z_sum, nI_0] at this
      exact this
theorem z_ways {p goal z : Nat} (h : z_arr w a n f) (hz : z < 64) (hp : p < n) (hg : goal < n) : fR_openWays w a (nI p) (nI goal) (nI z) = some (nI (z_ow f n z goal n none p (2 ^ p))) := by
  unfold fR_openWays
  have hn := h.1
  have := z_waysOn h hz hg n 0 8 none p (2 ^ p) (by omega) (by omega) (fun l hl => by cases hl) hp (Nat.lt_of_lt_of_le (Nat.pow_lt_pow_right (by omega) (show p < 6 by omega)) (by decide))
  rw [h.2.2.1, Option.bind_some, z_bit p (by omega)]
  rw [nI_0] at this
  rw [show (-1 : Int32) = z_li none from rfl, this, Option.bind_some]
theorem z_parted {p goal z : Nat} (h : z_arr w a n f) (hz : z < 64) (hp : p < n) (hg : goal < n) : fR_isParted w a (nI p) (nI goal) (nI z) = some (if z_ow f n z goal n none p (2 ^ p) = 0 then 1 else 0) := by
  unfold fR_isParted
  have hn := h.1
  have := z_waysOn h hz hg n 0 8 none p (2 ^ p) (by omega) (by omega) (fun l hl => by cases hl) hp (Nat.lt_of_lt_of_le (Nat.pow_lt_pow_right (by omega) (show p < 6 by omega)) (by decide))
  rw [h.2.2.1, Option.bind_some, z_bit p (by omega)]
  rw [nI_0] at this
  rw [show (-1 : Int32) = z_li none from rfl, this, Option.bind_some]
  have hle : z_ow f n z goal n none p (2 ^ p) < 2 ^ 31 := Nat.lt_of_le_of_lt (z_ow_le hn n none p (2 ^ p)) (Nat.lt_of_le_of_lt (Nat.pow_le_pow_right (by omega) hn) (by decide))
  by_cases e : z_ow f n z goal n none p (2 ^ p) = 0
  · rw [if_pos ((z_nz hle).mpr e), if_pos e]
  · rw [if_neg (fun q => e ((z_nz hle).mp q)), if_neg e]
theorem z_leads {p b s : Nat} (h : z_arr w a n f) (hp : p < n) (hb : b < n) (hs : s < 64) (hsb : s.testBit b = false) (hpb : p ≠ b) : fR_leadsPast w a (nI p) (nI b) (nI s) = some (if (z_rc f (63 - s) p n).testBit b then 1 else 0) := by
  obtain ⟨hn, hf, hob, hfi, pa, hfr, hai⟩ := h
  have h64 : ∀ q, q ≤ 6 → 2 ^ p ||| (z_rc f (63 - s) p q &&& (63 - s)) < 64 := fun q hq => by
    have h1 : z_rc f (63 - s) p q &&& (63 - s) < 2 ^ 6 := Nat.lt_of_le_of_lt Nat.and_le_right (by omega)
    exact Nat.or_lt_two_pow (n := 6) (Nat.pow_lt_pow_right (by omega) (by omega)) h1
  have loop : ∀ k q fuel, q + k = n → k < fuel → fR_leadsPast_10 w fuel a (nI b) (nI s) (nI (2 ^ p ||| (z_rc f (63 - s) p q &&& (63 - s)))) (nI q) = some (if (z_rc f (63 - s) p n).testBit b then 1 else 0) := by
    intro k
    induction k with
    | zero =>
      intro q fuel hq hk
      obtain ⟨m, rfl⟩ := z_suc hk
      rw [fR_leadsPast_10, hfi, Option.bind_some, if_pos (nI_le (by omega) (by omega)), z_has _ (h64 q (by omega)) _ (by omega)]
      rw [show q = n by omega]
      have e : (2 ^ p ||| (z_rc f (63 - s) p n &&& (63 - s))).testBit b = (z_rc f (63 - s) p n).testBit b := by
        rw [Nat.testBit_or, Nat.testBit_and, z_cpl s hs b (by omega), hsb, Nat.testBit_two_pow]
        simp [hpb]
      rw [e]
      by_cases hh : (z_rc f (63 - s) p n).testBit b <;> simp [hh]
    | succ k ih =>
      intro q fuel hq hk
      obtain ⟨m, rfl⟩ := z_suc hk
      have hlt : q < n := by omega
      have next := ih (q + 1) m (by omega) (by omega)
      rw [fR_leadsPast_10, hfi, Option.bind_some, if_neg (nI_ge hlt (by omega)), z_has _ hs _ (by omega), hfr, Option.bind_some, hai q hlt, Option.bind_some, z_bit q (by omega), z_or, z_and, z_inc]
      have hx : f q &&& (2 ^ p ||| (z_rc f (63 - s) p q &&& (63 - s))) < 2 ^ 31 := Nat.lt_of_le_of_lt Nat.and_le_left (Nat.lt_trans (z_f64 hn hf hlt) (by omega))
      have hq6 : q < 6 := by omega
      have bit : ∀ i, (2 ^ p ||| (z_rc f (63 - s) p (q + 1) &&& (63 - s))).testBit i = ((2 ^ p ||| (z_rc f (63 - s) p q &&& (63 - s))).testBit i || (decide (q = i) && !decide (f q &&& ((z_rc f (63 - s) p q &&& (63 - s)) ||| 2 ^ p) = 0) && (63 - s).testBit i)) := by
        intro i
        rw [z_rc, Nat.testBit_or, Nat.testBit_and, Nat.testBit_or, Nat.testBit_or, Nat.testBit_and]
        by_cases c : f q &&& ((z_rc f (63 - s) p q &&& (63 - s)) ||| 2 ^ p) = 0
        · simp [c]
        · simp only [c, if_false, Nat.testBit_two_pow, decide_false, Bool.not_false, Bool.and_true]
          cases decide (p = i) <;> cases (z_rc f (63 - s) p q).testBit i <;> cases decide (q = i) <;> cases (63 - s).testBit i <;> rfl
      by_cases hsq : s.testBit q
      · rw [if_pos hsq, if_neg (by decide)]
        have e : 2 ^ p ||| (z_rc f (63 - s) p (q + 1) &&& (63 - s)) = 2 ^ p ||| (z_rc f (63 - s) p q &&& (63 - s)) := by
          apply Nat.eq_of_testBit_eq
          intro i
          rw [bit i]
          by_cases ei : q = i
          · subst ei; rw [z_cpl s hs q hq6, hsq]; simp
          · simp [ei]
        rw [e] at next
        exact next
      · rw [if_neg hsq, if_pos rfl]
        by_cases c : f q &&& ((z_rc f (63 - s) p q &&& (63 - s)) ||| 2 ^ p) = 0
        · have c2 : f q &&& (2 ^ p ||| (z_rc f (63 - s) p q &&& (63 - s))) = 0 := by rw [Nat.or_comm]; exact c
          rw [if_pos ((z_nz hx).mpr c2)]
          have e : 2 ^ p ||| (z_rc f (63 - s) p (q + 1) &&& (63 - s)) = 2 ^ p ||| (z_rc f (63 - s) p q &&& (63 - s)) := by
            apply Nat.eq_of_testBit_eq
            intro i
            rw [bit i]
            simp [c]
          rw [e] at next
          exact next
        · have c2 : ¬ f q &&& (2 ^ p ||| (z_rc f (63 - s) p q &&& (63 - s))) = 0 := by rw [Nat.or_comm]; exact c
          rw [if_neg (fun z => c2 ((z_nz hx).mp z))]
          have e : 2 ^ p ||| (z_rc f (63 - s) p (q + 1) &&& (63 - s)) = 2 ^ p ||| (z_rc f (63 - s) p q &&& (63 - s)) ||| 2 ^ q := by
            apply Nat.eq_of_testBit_eq
            intro i
            rw [bit i, Nat.testBit_or _ (2 ^ q), Nat.testBit_two_pow]
            by_cases ei : q = i
            · subst ei; rw [z_cpl s hs q hq6]; simp [c, hsq]
            · simp [ei]
          rw [e] at next
          exact next
  unfold fR_leadsPast
  have := loop (n - (p + 1)) (p + 1) x_F (by omega) (by unfold x_F; omega)
  rw [z_rc_0 (63 - s) p (p + 1) (by omega) (fun j hj => hf j (by omega)), Nat.zero_and, Nat.or_zero] at this
  rw [z_bit p (by omega), z_inc]
  exact this
end
