/-! the class's Graph, as numbers -/
def z_gr (w : x_W) (o n : Nat) (f : Nat → Nat) (t : Nat → Nat → Nat) (h : Nat) : Prop := h < 64 ∧ x_ob w o 2 = some () ∧ x_fi w o 2 2 = some (nI h) ∧ ∃ ar wp, x_fr w o 2 0 = some ar ∧ z_arr w ar n f ∧ x_fr w o 2 1 = some wp ∧ ∀ p, p < n → ∀ v, v < 32 → v &&& f p = v → x_ai w wp (nI (p * 32 + v)) = some (nI (t p v))
theorem z_gr_n {w : x_W} {o n h : Nat} {f : Nat → Nat} {t : Nat → Nat → Nat} (H : z_gr w o n f t h) : n ≤ 6 := by
  obtain ⟨-, -, -, ar, wp, -, ha, -⟩ := H
  exact ha.1
theorem z_gr_f {w : x_W} {o n h : Nat} {f : Nat → Nat} {t : Nat → Nat → Nat} (H : z_gr w o n f t h) : ∀ p, p < n → f p < 2 ^ p := by
  obtain ⟨-, -, -, ar, wp, -, ha, -⟩ := H
  exact ha.2.1
section
variable {w : x_W} {o n h : Nat} {f : Nat → Nat} {t : Nat → Nat → Nat}
theorem z_weightAt {p x : Nat} (H : z_gr w o n f t h) (hp : p < n) : fG_weightAt w o (nI p) (nI x) = some (nI (t p (x &&& f p))) := by
  obtain ⟨hh, hob, hfi, ar, wp, hfr, ha, hwp, hai⟩ := H
  obtain ⟨hn, hf, hob1, hfi1, pa, hfr1, hai1⟩ := ha
  unfold fG_weightAt
  have h32 : x &&& f p < 32 := Nat.lt_of_le_of_lt Nat.and_le_right (Nat.lt_of_lt_of_le (hf p hp) (by
    have : 2 ^ p ≤ 2 ^ 5 := Nat.pow_le_pow_right (by omega) (by omega)
    omega))
  rw [hwp, Option.bind_some, hfr, Option.bind_some, hfr1, Option.bind_some, hai1 p hp, Option.bind_some, z_and, show (32 : Int32) = nI 32 from rfl, pk_mul, nI_add, hai p hp _ h32 (by rw [Nat.and_assoc, Nat.and_self]), Option.bind_some]
/-- the seen places that p leads to by hidden ones -/
def z_sn (f : Nat → Nat) (n h p : Nat) : Nat := z_rc f h p n &&& (63 - h)
theorem z_sn64 {p : Nat} (hh : h < 64) : z_sn f n h p < 64 := Nat.lt_of_le_of_lt Nat.and_le_right (by omega)
theorem z_seen {p : Nat} (H : z_gr w o n f t h) (hp : p < n) : fG_seenFrom w o (nI p) = some (nI (z_sn f n h p)) := by
  obtain ⟨hh, hob, hfi, ar, wp, hfr, ha, hwp, -⟩ := H
  obtain ⟨hn, hf, hob1, hfi1, pa, hfr1, hai⟩ := ha
  have loop : ∀ k q fuel, q + k = n → k < fuel → fG_seenFrom_11 w fuel o (nI (2 ^ p ||| (z_rc f h p q &&& h))) (nI (z_rc f h p q &&& (63 - h))) (nI q) = some (nI (z_sn f n h p)) := by
    intro k
    induction k with
    | zero =>
      intro q fuel hq hk
      obtain ⟨m, rfl⟩ := z_suc hk
      rw [fG_seenFrom_11, hfr, Option.bind_some, hfi1, Option.bind_some, if_pos (nI_le (by omega) (by omega))]
      rw [show q = n by omega]
      rfl
    | succ k ih =>
      intro q fuel hq hk
      obtain ⟨m, rfl⟩ := z_suc hk
      have hlt : q < n := by omega
      have hq6 : q < 6 := by omega
      have next := ih (q + 1) m (by omega) (by omega)
      rw [fG_seenFrom_11, hfr, Option.bind_some, hfi1, Option.bind_some, if_neg (nI_ge hlt (by omega)), hfr1, Option.bind_some, hai q hlt, Option.bind_some, hfi, Option.bind_some, z_has _ hh _ hq6, z_bit q (by omega), z_or, z_or, z_and, z_inc]
      have hx : f q &&& (2 ^ p ||| (z_rc f h p q &&& h)) < 2 ^ 31 := Nat.lt_of_le_of_lt Nat.and_le_left (Nat.lt_trans (z_f64 hn hf hlt) (by omega))
      by_cases c : f q &&& ((z_rc f h p q &&& h) ||| 2 ^ p) = 0
      · have c2 : f q &&& (2 ^ p ||| (z_rc f h p q &&& h)) = 0 := by rw [Nat.or_comm]; exact c
        rw [if_pos ((z_nz hx).mpr c2)]
        rw [z_rc, if_pos c, Nat.or_zero] at next
        exact next
      · have c2 : ¬ f q &&& (2 ^ p ||| (z_rc f h p q &&& h)) = 0 := by rw [Nat.or_comm]; exact c
        rw [if_neg (fun z => c2 ((z_nz hx).mp z))]
        rw [z_rc, if_neg c] at next
        by_cases b : h.testBit q
        · rw [if_pos b, if_neg (by decide)]
          have e1 : 2 ^ p ||| ((z_rc f h p q ||| 2 ^ q) &&& h) = 2 ^ p ||| (z_rc f h p q &&& h) ||| 2 ^ q := by
            apply Nat.eq_of_testBit_eq
            intro i
            simp only [Nat.testBit_or, Nat.testBit_and, Nat.testBit_two_pow]
            by_cases ei : q = i
            · subst ei; simp [b]
            · simp [ei]
          have e2 : (z_rc f h p q ||| 2 ^ q) &&& (63 - h) = z_rc f h p q &&& (63 - h) := by
            apply Nat.eq_of_testBit_eq
            intro i
            simp only [Nat.testBit_or, Nat.testBit_and, Nat.testBit_two_pow]
            by_cases ei : q = i
            · subst ei; rw [z_cpl h hh q hq6, b]; simp
            · simp [ei]
          rw [e1, e2] at next
          exact next
        · rw [if_neg b, if_pos rfl]
          have e1 : 2 ^ p ||| ((z_rc f h p q ||| 2 ^ q) &&& h) = 2 ^ p ||| (z_rc f h p q &&& h) := by
            apply Nat.eq_of_testBit_eq
            intro i
            simp only [Nat.testBit_or, Nat.testBit_and, Nat.testBit_two_pow]
            by_cases ei : q = i
            · subst ei; simp [b]
            · simp [ei]
          have e2 : (z_rc f h p q ||| 2 ^ q) &&& (63 - h) = (z_rc f h p q &&& (63 - h)) ||| 2 ^ q := by
            apply Nat.eq_of_testBit_eq
            intro i
            simp only [Nat.testBit_or, Nat.testBit_and, Nat.testBit_two_pow]
            by_cases ei : q = i
            · subst ei; rw [z_cpl h hh q hq6]; simp [b]
            · simp [ei]
          rw [e1, e2] at next
          exact next
  unfold fG_seenFrom
  have := loop (n - (p + 1)) (p + 1) x_F (by omega) (by unfold x_F; omega)
  rw [z_rc_0 h p (p + 1) (by omega) (fun j hj => hf j (by omega)), Nat.zero_and, Nat.or_zero, Nat.zero_and, nI_0] at this
  rw [z_bit p (by omega), z_inc]
  exact this
def z_bd (f : Nat → Nat) (n h G : Nat) : Nat → Nat
  | 0 => 0
  | q + 1 => z_bd f n h G q ||| (if h.testBit q then (if z_sn f n h q &&& G = 0 then 0 else z_sn f n h q) else 0)
theorem z_bd64 {G : Nat} (hh : h < 64) : ∀ q, z_bd f n h G q < 64
  | 0 => by simp [z_bd]
  | q + 1 => by
    rw [z_bd]
    refine Nat.or_lt_two_pow (n := 6) (z_bd64 hh q) ?_
    split
    · split
      · omega
      · exact z_sn64 hh
    · omega
theorem z_bound {G : Nat} (H : z_gr w o n f t h) : fG_boundTo w o (nI G) = some (nI (z_bd f n h G n)) := by
  have HS := @z_seen w o n h f t
  have H0 := H
  obtain ⟨hh, hob, hfi, ar, wp, hfr, ha, hwp, -⟩ := H
  obtain ⟨hn, hf, hob1, hfi1, pa, hfr1, hai⟩ := ha
  have loop : ∀ k q fuel, q + k = n → k < fuel → fG_boundTo_4 w fuel o (nI G) (nI (z_bd f n h G q)) (nI q) = some (nI (z_bd f n h G n)) := by
    intro k
    induction k with
    | zero =>
      intro q fuel hq hk
      obtain ⟨m, rfl⟩ := z_suc hk
      rw [fG_boundTo_4, hfr, Option.bind_some, hfi1, Option.bind_some, if_pos (nI_le (by omega) (by omega))]
      rw [show q = n by omega]
    | succ k ih =>
      intro q fuel hq hk
      obtain ⟨m, rfl⟩ := z_suc hk
      have hlt : q < n := by omega
      have next := ih (q + 1) m (by omega) (by omega)
      rw [z_bd] at next
      rw [fG_boundTo_4, hfr, Option.bind_some, hfi1, Option.bind_some, if_neg (nI_ge hlt (by omega)), hfi, Option.bind_some, z_has _ hh _ (by omega), HS H0 hlt, Option.bind_some, z_and, z_or, z_inc]
      have hx : z_sn f n h q &&& G < 2 ^ 31 := Nat.lt_of_le_of_lt Nat.and_le_left (Nat.lt_trans (z_sn64 hh) (by omega))
      by_cases b : h.testBit q
      · rw [if_pos b] at next
        rw [if_pos b, if_neg (by decide)]
        by_cases c : z_sn f n h q &&& G = 0
        · rw [if_pos c] at next
          rw [if_pos ((z_nz hx).mpr c), show (0 : Int32) = nI 0 from rfl, z_or]
          exact next
        · rw [if_neg c] at next
          rw [if_neg (fun z => c ((z_nz hx).mp z))]
          exact next
      · rw [if_neg b, Nat.or_zero] at next
        rw [if_neg b, if_pos rfl]
        exact next
  unfold fG_boundTo
  have := loop n 0 x_F (by omega) (by unfold x_F; omega)
  rw [z_bd, nI_0] at this
  exact this
def z_rd (f : Nat → Nat) (n h : Nat) : Nat → Nat → Nat
  | 0, G => G
  | k + 1, G => z_rd f n h k (G ||| z_bd f n h G n)
def z_cl (f : Nat → Nat) (n h p : Nat) : Nat := if h.testBit p then 0 else z_rd f n h n (2 ^ p)
theorem z_rd64 (hh : h < 64) : ∀ k G, G < 64 → z_rd f n h k G < 64
  | 0, G, hG => hG
  | k + 1, G, hG => by
    rw [z_rd]
    exact z_rd64 hh k _ (Nat.or_lt_two_pow (n := 6) hG (z_bd64 hh n))
theorem z_clump {p : Nat} (H : z_gr w o n f t h) (hp : p < n) : fG_clumpOf w o (nI p) = some (nI (z_cl f n h p)) := by
  have HB := @z_bound w o n h f t
  have H0 := H
  obtain ⟨hh, hob, hfi, ar, wp, hfr, ha, hwp, -⟩ := H
  obtain ⟨hn, hf, hob1, hfi1, pa, hfr1, hai⟩ := ha
  have loop : ∀ k q G fuel, q + k = n → k < fuel → fG_clumpOf_19 w fuel o (nI G) (nI q) = some (nI (z_rd f n h k G)) := by
    intro k
    induction k with
    | zero =>
      intro q G fuel hq hk
      obtain ⟨m, rfl⟩ := z_suc hk
      rw [fG_clumpOf_19, hfr, Option.bind_some, hfi1, Option.bind_some, if_pos (nI_le (by omega) (by omega))]
      rfl
    | succ k ih =>
      intro q G fuel hq hk
      obtain ⟨m, rfl⟩ := z_suc hk
      have hlt : q < n := by omega
      rw [fG_clumpOf_19, hfr, Option.bind_some, hfi1, Option.bind_some, if_neg (nI_ge hlt (by omega)), HB H0, Option.bind_some, z_or, z_inc]
      exact ih (q + 1) _ m (by omega) (by omega)
  unfold fG_clumpOf z_cl
  rw [hfi, Option.bind_some, z_has _ hh _ (by omega)]
  by_cases b : h.testBit p
  · rw [if_pos b, if_neg (by decide), if_pos b, nI_0]
  · rw [if_neg b, if_pos rfl, if_neg b, z_bit p (by omega), show (0 : Int32) = nI 0 from rfl]
    exact loop n 0 (2 ^ p) x_F (by omega) (by unfold x_F; omega)
def z_hc (cl : Nat → Nat) : Nat → Nat → Nat → Nat → Nat
  | 0, _, c, _ => c
  | k + 1, q, c, done => if done.testBit q then z_hc cl k (q + 1) c done else z_hc cl k (q + 1) (c + 1) (done ||| cl q)
theorem z_cl64 {p : Nat} (hp : p < n) (hn : n ≤ 6) (hh : h < 64) : z_cl f n h p < 64 := by
  unfold z_cl
  split
  · omega
  · exact z_rd64 hh n _ (Nat.lt_of_lt_of_le (Nat.pow_lt_pow_right (by omega) (show p < 6 by omega)) (by decide))
theorem z_clumps (H : z_gr w o n f t h) : fG_howManyClumps w o = some (nI (z_hc (z_cl f n h) n 0 0 h)) := by
  have HC := @z_clump w o n h f t
  have H0 := H
  obtain ⟨hh, hob, hfi, ar, wp, hfr, ha, hwp, -⟩ := H
  obtain ⟨hn, hf, hob1, hfi1, pa, hfr1, hai⟩ := ha
  have loop : ∀ k q c done fuel, q + k = n → k < fuel → done < 64 → fG_howManyClumps_9 w fuel o (nI c) (nI done) (nI q) = some (nI (z_hc (z_cl f n h) k q c done)) := by
    intro k
    induction k with
    | zero =>
      intro q c done fuel hq hk hd
      obtain ⟨m, rfl⟩ := z_suc hk
      rw [fG_howManyClumps_9, hfr, Option.bind_some, hfi1, Option.bind_some, if_pos (nI_le (by omega) (by omega))]
      rfl
    | succ k ih =>
      intro q c done fuel hq hk hd
      obtain ⟨m, rfl⟩ := z_suc hk
      have hlt : q < n := by omega
      rw [fG_howManyClumps_9, hfr, Option.bind_some, hfi1, Option.bind_some, if_neg (nI_ge hlt (by omega)), z_has _ hd _ (by omega), HC H0 hlt, Option.bind_some, z_or, z_inc, z_inc, z_hc]
      by_cases b : done.testBit q
      · rw [if_pos b, if_neg (by decide), if_pos b]
        exact ih (q + 1) c done m (by omega) (by omega) hd
      · rw [if_neg b, if_pos rfl, if_neg b]
        exact ih (q + 1) (c + 1) _ m (by omega) (by omega) (Nat.or_lt_two_pow (n := 6) hd (z_cl64 hlt hn hh))
  unfold fG_howManyClumps
  rw [hfi, Option.bind_some, show (0 : Int32) = nI 0 from rfl]
  exact loop n 0 0 h x_F (by omega) (by unfold x_F; omega) hh
end
