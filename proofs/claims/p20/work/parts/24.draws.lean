/-! the class's draws, as numbers -/
def z_wd (w : x_W) (u d e q v : Nat) : Prop := d < 64 ∧ e < 64 ∧ q < 64 ∧ v < 64 ∧ x_ob w u 3 = some () ∧ x_fi w u 3 0 = some (nI d) ∧ x_fi w u 3 1 = some (nI e) ∧ x_fi w u 3 2 = some (nI q) ∧ x_fi w u 3 3 = some (nI v)
def z_tk (q v p b : Nat) : Bool := !q.testBit p || (v.testBit p == decide (b = 1))
def z_wi (d e p x : Nat) : Nat := if d.testBit p then (if e.testBit p then 16 else 0) else x
def z_nf (a b c d : Nat) : Nat := (min (if b = 1 then a else 16) (if d = 1 then c else 16)) - (max (if b = 1 then 0 else a) (if d = 1 then 0 else c))
theorem z_numbers : ∀ a, a < 17 → ∀ b, b < 2 → ∀ c, c < 17 → ∀ d, d < 2 → fG_numbersFor (nI a) (nI b) (nI c) (nI d) = nI (z_nf a b c d) := by decide +kernel
theorem z_bsh : ∀ b, b < 2 → ∀ p, p < 6 → nI b <<< (nI p &&& 31) = nI (b * 2 ^ p) := by decide +kernel
theorem z_b2 {b : Nat} (h : b < 2) : b = 0 ∨ b = 1 := by omega
theorem z_takes {w : x_W} {u d e q v p b : Nat} (H : z_wd w u d e q v) (hp : p < 6) (hb : b < 2) : fO_takes w u (nI p) (nI b) = some (if z_tk q v p b then 1 else 0) := by
  obtain ⟨hd, he, hq, hv, hob, h0, h1, h2, h3⟩ := H
  unfold fO_takes z_tk
  rw [h2, Option.bind_some, z_has _ hq _ hp, h3, Option.bind_some, z_has _ hv _ hp]
  rcases z_b2 hb with rfl | rfl
  · rw [if_neg (show ¬ nI 0 = 1 by decide)]
    by_cases a : q.testBit p <;> by_cases c : v.testBit p <;> simp [a, c]
  · rw [if_pos (show nI 1 = 1 by decide)]
    by_cases a : q.testBit p <;> by_cases c : v.testBit p <;> simp [a, c]
theorem z_weightIn {w : x_W} {u d e q v p x : Nat} (H : z_wd w u d e q v) (hp : p < 6) : fO_weightIn w u (nI p) (nI x) = some (nI (z_wi d e p x)) := by
  obtain ⟨hd, he, hq, hv, hob, h0, h1, h2, h3⟩ := H
  unfold fO_weightIn z_wi
  rw [h0, Option.bind_some, z_has _ hd _ hp, h1, Option.bind_some, z_has _ he _ hp]
  by_cases a : d.testBit p <;> by_cases c : e.testBit p <;> simp [a, c] <;> rfl
theorem z_wi_le {d e p x : Nat} (h : x ≤ 16) : z_wi d e p x ≤ 16 := by
  unfold z_wi
  split
  · split <;> omega
  · exact h
/-- the draws from place p on (k places are left), in two worlds at once -/
def z_df (f : Nat → Nat) (t : Nat → Nat → Nat) (d1 e1 q1 v1 d2 e2 q2 v2 : Nat) : Nat → Nat → Nat → Nat → Nat
  | 0, _, _, _ => 1
  | k + 1, p, x, y =>
    let a := z_wi d1 e1 p (t p (x &&& f p))
    let c := z_wi d2 e2 p (t p (y &&& f p))
    let T := fun b1 b2 => (if z_tk q1 v1 p b1 && z_tk q2 v2 p b2 then z_nf a b1 c b2 else 0) * z_df f t d1 e1 q1 v1 d2 e2 q2 v2 k (p + 1) (x ||| b1 * 2 ^ p) (y ||| b2 * 2 ^ p)
    T 0 0 + T 0 1 + T 1 0 + T 1 1
theorem z_nle0 {a : Nat} (h : a < 2 ^ 31) : nI a ≤ 0 ↔ a = 0 := by
  rw [show (0 : Int32) = nI 0 from rfl, nI_leI h (by omega)]
  omega
theorem z_nf_le : ∀ a, a < 17 → ∀ b, b < 2 → ∀ c, c < 17 → ∀ d, d < 2 → z_nf a b c d ≤ 16 := by decide +kernel
theorem z_xb {x b p : Nat} (hx : x < 64) (hb : b < 2) (hp : p < 6) : x ||| b * 2 ^ p < 64 := by
  refine Nat.or_lt_two_pow (n := 6) hx ?_
  rcases z_b2 hb with rfl | rfl
  · simp
  · rw [Nat.one_mul]; exact Nat.pow_lt_pow_right (by omega) hp
section
variable {w : x_W} {o n h : Nat} {f : Nat → Nat} {t : Nat → Nat → Nat} {u1 u2 d1 e1 q1 v1 d2 e2 q2 v2 : Nat}
set_option maxHeartbeats 1000000 in
theorem z_drawsFrom (H : z_gr w o n f t h) (ht : ∀ p v, t p v ≤ 16) (W1 : z_wd w u1 d1 e1 q1 v1) (W2 : z_wd w u2 d2 e2 q2 v2) : ∀ (k p j x y : Nat), k + p = n → k < j → x < 64 → y < 64 → fG_drawsFrom w j o (nI p) u1 (nI x) u2 (nI y) = some (nI (z_df f t d1 e1 q1 v1 d2 e2 q2 v2 k p x y)) := by
  intro k
  induction k with
  | zero =>
    intro p j x y hp hj hx hy
    obtain ⟨hh, hob, hfi, ar, wp, hfr, ha, hwp, -⟩ := H
    obtain ⟨hn, hf, hob1, hfi1, -⟩ := ha
    obtain ⟨j, rfl⟩ := z_suc hj
    rw [fG_drawsFrom, hfr, Option.bind_some, hfi1, Option.bind_some, if_neg (nI_nlt (by omega) (by omega))]
    rfl
  | succ k ih =>
    intro p j x y hp hj hx hy
    have H0 := H
    obtain ⟨hh, hob, hfi, ar, wp, hfr, ha, hwp, -⟩ := H
    obtain ⟨hn, hf, hob1, hfi1, -⟩ := ha
    obtain ⟨j, rfl⟩ := z_suc hj
    have hlt : p < n := by omega
    have hp6 : p < 6 := by omega
    rw [fG_drawsFrom, hfr, Option.bind_some, hfi1, Option.bind_some, if_pos (nI_lt hlt (by omega)), z_weightAt H0 hlt, Option.bind_some, W1.2.2.2.2.1, Option.bind_some, z_weightIn W1 hp6, Option.bind_some, z_weightAt H0 hlt, Option.bind_some, W2.2.2.2.2.1, Option.bind_some, z_weightIn W2 hp6, Option.bind_some, z_df]
    have ha : z_wi d1 e1 p (t p (x &&& f p)) < 17 := Nat.lt_succ_of_le (z_wi_le (ht _ _))
    have hc : z_wi d2 e2 p (t p (y &&& f p)) < 17 := Nat.lt_succ_of_le (z_wi_le (ht _ _))
    generalize z_wi d1 e1 p (t p (x &&& f p)) = a at ha ⊢
    generalize z_wi d2 e2 p (t p (y &&& f p)) = c at hc ⊢
    -- the term of two values
    obtain ⟨T, hT⟩ : ∃ T : Nat → Nat → Nat, T = fun b1 b2 => (if z_tk q1 v1 p b1 && z_tk q2 v2 p b2 then z_nf a b1 c b2 else 0) * z_df f t d1 e1 q1 v1 d2 e2 q2 v2 k (p + 1) (x ||| b1 * 2 ^ p) (y ||| b2 * 2 ^ p) := ⟨_, rfl⟩
    have step : ∀ (k47 : Nat → Int32 → Nat → Int32 → Nat → Int32 → Int32 → Int32 → Int32 → Int32 → Option Int32) (m b1 b2 s : Nat), b1 < 2 → b2 < 2 → fG_drawsFrom_56 w (fG_drawsFrom w j) k47 (m + 1) o (nI p) u1 (nI x) u2 (nI y) (nI a) (nI c) (nI s) (nI b1) (nI b2) = fG_drawsFrom_56 w (fG_drawsFrom w j) k47 m o (nI p) u1 (nI x) u2 (nI y) (nI a) (nI c) (nI (s + T b1 b2)) (nI b1) (nI (b2 + 1)) := by
      intro k47 m b1 b2 s h1 h2
      rw [fG_drawsFrom_56, if_neg (show ¬ (1 : Int32) < nI b2 by rcases z_b2 h2 with rfl | rfl <;> decide), W1.2.2.2.2.1, Option.bind_some, z_takes W1 hp6 h1, Option.bind_some, W2.2.2.2.2.1, Option.bind_some, z_takes W2 hp6 h2, Option.bind_some, z_numbers a ha b1 h1 c hc b2 h2, hob, Option.bind_some, z_inc, z_inc, z_bsh b1 h1 p hp6, z_bsh b2 h2 p hp6, z_or, z_or, ih (p + 1) j _ _ (by omega) (by omega) (z_xb hx h1 hp6) (z_xb hy h2 hp6), Option.bind_some, pk_mul, nI_add]
      have hle : z_nf a b1 c b2 < 2 ^ 31 := Nat.lt_of_le_of_lt (z_nf_le a ha b1 h1 c hc b2 h2) (by omega)
      rw [hT]
      by_cases c1 : z_tk q1 v1 p b1
      · rw [if_pos c1, if_neg (by decide)]
        by_cases c2 : z_tk q2 v2 p b2
        · rw [if_pos c2, if_neg (by decide)]
          dsimp only
          rw [c1, c2]
          by_cases c3 : z_nf a b1 c b2 = 0
          · rw [if_pos ((z_nle0 hle).mpr c3), c3]
            simp
          · rw [if_neg (fun z => c3 ((z_nle0 hle).mp z))]
            simp
        · rw [if_neg c2, if_pos rfl]
          simp [c2]
      · rw [if_neg c1, if_pos rfl]
        simp [c1]
    have inner : ∀ (k47 : Nat → Int32 → Nat → Int32 → Nat → Int32 → Int32 → Int32 → Int32 → Int32 → Option Int32) (m b1 s : Nat), b1 < 2 → fG_drawsFrom_56 w (fG_drawsFrom w j) k47 (m + 3) o (nI p) u1 (nI x) u2 (nI y) (nI a) (nI c) (nI s) (nI b1) (nI 0) = k47 o (nI p) u1 (nI x) u2 (nI y) (nI a) (nI c) (nI (s + T b1 0 + T b1 1)) (nI (b1 + 1)) := by
      intro k47 m b1 s h1
      rw [step k47 (m + 2) b1 0 s h1 (by omega), step k47 (m + 1) b1 1 _ h1 (by omega), fG_drawsFrom_56, if_pos (show (1 : Int32) < nI (1 + 1) by decide), z_inc]
    have outer : ∀ m b1 s, b1 < 2 → fG_drawsFrom_47 w (fG_drawsFrom w j) (m + 1) o (nI p) u1 (nI x) u2 (nI y) (nI a) (nI c) (nI s) (nI b1) = fG_drawsFrom_47 w (fG_drawsFrom w j) m o (nI p) u1 (nI x) u2 (nI y) (nI a) (nI c) (nI (s + T b1 0 + T b1 1)) (nI (b1 + 1)) := by
      intro m b1 s h1
      rw [fG_drawsFrom_47, if_neg (show ¬ (1 : Int32) < nI b1 by rcases z_b2 h1 with rfl | rfl <;> decide), show (0 : Int32) = nI 0 from rfl, show x_F = 99999997 + 3 from rfl, inner _ 99999997 b1 s h1]
    rw [show (0 : Int32) = nI 0 from rfl, show x_F = 99999997 + 1 + 1 + 1 from rfl, outer _ 0 0 (by omega), outer _ 1 _ (by omega), fG_drawsFrom_47, if_pos (show (1 : Int32) < nI (1 + 1) by decide)]
    rw [hT]
    simp [Nat.add_assoc]
theorem z_draws (H : z_gr w o n f t h) (ht : ∀ p v, t p v ≤ 16) (W1 : z_wd w u1 d1 e1 q1 v1) (W2 : z_wd w u2 d2 e2 q2 v2) : fG_drawsOfBoth w o u1 u2 = some (nI (z_df f t d1 e1 q1 v1 d2 e2 q2 v2 n 0 0 0)) := by
  unfold fG_drawsOfBoth
  have hn := z_gr_n H
  rw [H.2.1, Option.bind_some, show (0 : Int32) = nI 0 from rfl, z_drawsFrom H ht W1 W2 n 0 8 0 0 (by omega) (by omega) (by omega) (by omega), Option.bind_some]
end
