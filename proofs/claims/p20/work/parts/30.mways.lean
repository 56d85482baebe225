/-! the reference's ways as numbers -/
theorem z_allI : ∀ n, n < 7 → ((1 : Int32) <<< (nI n &&& 31)) - 1 = nI (2 ^ n - 1) := by decide +kernel
theorem z_pc_or : ∀ u, u < 64 → ∀ q, q < 6 → u.testBit q = false → z_pc (u ||| 2 ^ q) = z_pc u + 1 := by decide +kernel
theorem z_pc_le : ∀ n, n < 7 → ∀ u, u < 64 → u < 2 ^ n → z_pc u ≤ n := by decide +kernel
theorem z_unbit : ∀ u, u < 64 → ∀ q, q < 6 → u.testBit q = false → (u ||| 2 ^ q) &&& (63 - 2 ^ q) = u := by decide +kernel
theorem z_notbit : ∀ u, u < 64 → ∀ q, q < 6 → nI u &&& (((1 : Int32) <<< (nI q &&& 31)) ^^^ (-1)) = nI (u &&& (63 - 2 ^ q)) := by decide +kernel
theorem z_rc_thr {F : Nat → Nat} {n p thr thr' : Nat} (h : ∀ j, j < n → thr.testBit j = thr'.testBit j) : ∀ q, q ≤ n → z_rc F thr p q = z_rc F thr' p q
  | 0, _ => rfl
  | q + 1, hq => by
    have ih := z_rc_thr (F := F) (p := p) h q (by omega)
    have e : z_rc F thr p q &&& thr = z_rc F thr' p q &&& thr' := by
      apply Nat.eq_of_testBit_eq
      intro i
      rw [Nat.testBit_and, Nat.testBit_and, ih]
      by_cases hi : i < q
      · rw [h i (by omega)]
      · rw [z_hi (z_rc_lt thr' p q) (by omega)]; simp
    rw [z_rc, z_rc, e, ih]
def z_okp (F : Nat → Nat) (n z : Nat) (π : Nat → Nat) : Nat → Bool
  | 0 => true
  | m + 1 => z_okp F n z π m && z_op F n z (π m) (π (m + 1)) (π (m + 2))
theorem z_okp_mono {F : Nat → Nat} {n z : Nat} {π : Nat → Nat} : ∀ b a, a ≤ b → z_okp F n z π b = true → z_okp F n z π a = true
  | 0, a, h, hb => by rw [show a = 0 by omega]; rfl
  | b + 1, a, h, hb => by
    rw [z_okp, Bool.and_eq_true] at hb
    by_cases e : a = b + 1
    · subst e; rw [z_okp, hb.1, hb.2]; rfl
    · exact z_okp_mono b a (by omega) hb.1
theorem z_okp_congr {F : Nat → Nat} {n z : Nat} {π π' : Nat → Nat} : ∀ m, (∀ k, k < m + 2 → π k = π' k) → z_okp F n z π m = z_okp F n z π' m
  | 0, _ => rfl
  | m + 1, h => by rw [z_okp, z_okp, z_okp_congr m (fun k hk => h k (by omega)), h m (by omega), h (m + 1) (by omega), h (m + 2) (by omega)]
theorem z_opE {F : Nat → Nat} {n z l m q : Nat} : z_op F n z l m q = if (F m).testBit l && (F m).testBit q then (z.testBit m || !decide (z_rc F 63 m n &&& z = 0)) else !z.testBit m := by
  unfold z_op
  split
  · cases hb : z.testBit m
    · have : z &&& (2 ^ m ||| z_rc F 63 m n) = z_rc F 63 m n &&& z := by
        apply Nat.eq_of_testBit_eq
        intro i
        rw [Nat.testBit_and, Nat.testBit_or, Nat.testBit_and, Nat.testBit_two_pow]
        by_cases e : m = i
        · subst e; rw [hb]; simp
        · simp [e, Bool.and_comm]
      rw [this]; rfl
    · have : ¬ z &&& (2 ^ m ||| z_rc F 63 m n) = 0 := by
        intro e
        have : (z &&& (2 ^ m ||| z_rc F 63 m n)).testBit m = false := by rw [e]; exact Nat.zero_testBit m
        rw [Nat.testBit_and, Nat.testBit_or, Nat.testBit_two_pow, hb] at this
        simp at this
      simp [this]
  · rfl
section
variable {w : x_W} {c n : Nat} {f : Nat → Nat}
theorem z_Mall (H : z_mw w c n f) : fM_all w 18 = some (nI (2 ^ n - 1)) := by
  obtain ⟨m0, m1, -⟩ := z_M0 H
  have hn := H.2.1
  unfold fM_all
  rw [m0, Option.bind_some, m1, Option.bind_some, z_allI n (by omega)]
theorem z_Mafter (H : z_mw w c n f) {p : Nat} (hp : p < n) : fM_after w 18 (nI p) = some (nI (z_rc (z_ct f c) 63 p n)) := by
  obtain ⟨m0, -⟩ := z_M0 H
  have hn := H.2.1
  have h1 : 2 ^ n ≤ 64 := z_pow hn
  have h4 := Nat.two_pow_pos n
  unfold fM_after
  rw [m0, Option.bind_some, z_Mall H, Option.bind_some, z_Mreach H hp (by omega), Option.bind_some, z_rc_thr (thr' := 63) (fun j hj => by
    rw [Nat.testBit_two_pow_sub_one, show (63 : Nat) = 2 ^ 6 - 1 from rfl, Nat.testBit_two_pow_sub_one]
    simp [hj, show j < 6 by omega]) n (Nat.le_refl n)]
theorem z_Mopen (H : z_mw w c n f) {Y : Nat → Int32} (hY : w[23]? = some (.inl (6, Y))) {s z : Nat} {π : Nat → Nat} (hs2 : 2 ≤ s) (hs6 : s ≤ 6) (hπ : ∀ k, k < s → Y k = nI (π k) ∧ π k < n) (hz : z < 64) : fM_isOpen w 18 (nI s) (nI z) = some (if z_okp (z_ct f c) n z π (s - 2) then 1 else 0) := by
  obtain ⟨m0, -, -, -, -, -, -, m7, -⟩ := z_M0 H
  have hn := H.2.1
  have stop : ∀ m k, fM_isOpen_5 w (m + 1) 18 (nI s) (nI z) 0 (nI k) = some 0 := by
    intro m k
    rw [fM_isOpen_5]
    by_cases e : nI s ≤ nI k + 1
    · rw [if_pos e]; rfl
    · rw [if_neg e]; rfl
  have loop : ∀ j k fuel, k + 1 + j = s → j + 1 < fuel → 1 ≤ k → z_okp (z_ct f c) n z π (k - 1) = true → fM_isOpen_5 w fuel 18 (nI s) (nI z) 1 (nI k) = some (if z_okp (z_ct f c) n z π (s - 2) then 1 else 0) := by
    intro j
    induction j with
    | zero =>
      intro k fuel hk hf h1 hok
      obtain ⟨m, rfl⟩ := z_suc hf
      rw [fM_isOpen_5, z_inc, if_pos (nI_le (by omega) (by omega)), if_pos (by decide), show s - 2 = k - 1 by omega, hok]
      rfl
    | succ j ih =>
      intro k fuel hk hf h1 hok
      obtain ⟨m, rfl⟩ := z_suc hf
      obtain ⟨k', rfl⟩ : ∃ k', k = k' + 1 := ⟨k - 1, by omega⟩
      obtain ⟨y0, p0⟩ := hπ k' (by omega)
      obtain ⟨y1, p1⟩ := hπ (k' + 1) (by omega)
      obtain ⟨y2, p2⟩ := hπ (k' + 2) (by omega)
      rw [fM_isOpen_5, z_inc, if_neg (nI_ge (by omega) (by omega)), if_neg (by decide), m7, Option.bind_some, z_ai hY (show k' + 1 < 6 by omega) (by omega), Option.bind_some, y1, show nI (k' + 1) - 1 = nI k' from nI_pred k', z_ai hY (show k' < 6 by omega) (by omega), Option.bind_some, y0, z_arrow H p0 p1, Option.bind_some, z_hasM _ hz _ (by omega), z_ai hY (show k' + 1 + 1 < 6 by omega) (by omega), Option.bind_some, y2, z_arrow H p2 p1, Option.bind_some, z_Mafter H p1, Option.bind_some, z_and]
      have hok' : z_okp (z_ct f c) n z π k' = true := hok
      have key : z_okp (z_ct f c) n z π (k' + 1) = z_op (z_ct f c) n z (π k') (π (k' + 1)) (π (k' + 2)) := by rw [z_okp, hok']; simp
      rw [z_opE] at key
      have yes : z_okp (z_ct f c) n z π (k' + 1) = true → fM_isOpen_5 w m 18 (nI s) (nI z) 1 (nI (k' + 1 + 1)) = some (if z_okp (z_ct f c) n z π (s - 2) then 1 else 0) := fun e => ih (k' + 1 + 1) m (by omega) (by omega) (by omega) e
      have no : z_okp (z_ct f c) n z π (k' + 1) = false → fM_isOpen_5 w m 18 (nI s) (nI z) 0 (nI (k' + 1 + 1)) = some (if z_okp (z_ct f c) n z π (s - 2) then 1 else 0) := fun e => by
        obtain ⟨m', rfl⟩ : ∃ m', m = m' + 1 := ⟨m - 1, by omega⟩
        rw [stop]
        have : z_okp (z_ct f c) n z π (s - 2) = false := by
          cases hh : z_okp (z_ct f c) n z π (s - 2)
          · rfl
          · rw [z_okp_mono (s - 2) (k' + 1) (by omega) hh] at e; cases e
        rw [this]; rfl
      have hx : z_rc (z_ct f c) 63 (π (k' + 1)) n &&& z < 2 ^ 31 := Nat.lt_of_le_of_lt Nat.and_le_right (by omega)
      by_cases c1 : (z_ct f c (π (k' + 1))).testBit (π k')
      · rw [if_pos c1, if_neg (by decide)]
        by_cases c2 : (z_ct f c (π (k' + 1))).testBit (π (k' + 2))
        · rw [if_pos c2, if_neg (by decide)]
          rw [if_pos (by simp [c1, c2])] at key
          by_cases c3 : z.testBit (π (k' + 1))
          · rw [if_pos c3, if_neg (by decide)]
            exact yes (by rw [key, c3]; rfl)
          · rw [if_neg c3, if_pos rfl]
            by_cases c4 : z_rc (z_ct f c) 63 (π (k' + 1)) n &&& z = 0
            · rw [if_pos ((z_nz hx).mpr c4)]
              exact no (by rw [key]; simp [c3, c4])
            · rw [if_neg (fun e => c4 ((z_nz hx).mp e))]
              exact yes (by rw [key]; simp [c4])
        · rw [if_neg c2, if_pos rfl]
          rw [if_neg (by simp [c2])] at key
          by_cases c3 : z.testBit (π (k' + 1))
          · rw [if_pos c3, if_neg (by decide)]
            exact no (by rw [key, c3]; rfl)
          · rw [if_neg c3, if_pos rfl]
            exact yes (by rw [key]; simp [c3])
      · rw [if_neg c1, if_pos rfl]
        rw [if_neg (by simp [c1])] at key
        by_cases c3 : z.testBit (π (k' + 1))
        · rw [if_pos c3, if_neg (by decide)]
          exact no (by rw [key, c3]; rfl)
        · rw [if_neg c3, if_pos rfl]
          exact yes (by rw [key]; simp [c3])
  unfold fM_isOpen
  exact loop (s - 2) 1 x_F (by omega) (by unfold x_F; omega) (by omega) rfl
def z_sm (g : Nat → Nat) : Nat → Nat → Nat
  | 0, _ => 0
  | k + 1, q => g q + z_sm g k (q + 1)
def z_cq (F : Nat → Nat) (n z goal : Nat) : Nat → Bool → Option Nat → Nat → Nat → Nat → Nat
  | 0, ok, last, m, been, q => if !been.testBit q && ((F m).testBit q || (F q).testBit m) then (if q = goal then (if ok && z_opl F n z last m q then 1 else 0) else 0) else 0
  | d + 1, ok, last, m, been, q => if !been.testBit q && ((F m).testBit q || (F q).testBit m) then (if q = goal then (if ok && z_opl F n z last m q then 1 else 0) else z_sm (z_cq F n z goal d (ok && z_opl F n z last m q) (some m) q (been ||| 2 ^ q)) n 0) else 0
theorem z_sm_sum {g : Nat → Nat} : ∀ k q, z_sum g q + z_sm g k q = z_sum g (q + k)
  | 0, q => by simp [z_sm]
  | k + 1, q => by
    rw [z_sm, show q + (k + 1) = (q + 1) + k by omega, ← z_sm_sum k (q + 1), z_sum]
    omega
theorem z_sm_all {g : Nat → Nat} (n : Nat) : z_sm g n 0 = z_sum g n := by
  have := z_sm_sum (g := g) n 0
  rw [z_sum, Nat.zero_add, Nat.zero_add] at this
  exact this
theorem z_cq_ow {F : Nat → Nat} {n z goal : Nat} : ∀ d ok last m been, m ≠ goal → z_sm (z_cq F n z goal d ok last m been) n 0 = if ok then z_ow F n z goal (d + 1) last m been else 0 := by
  intro d
  induction d with
  | zero =>
    intro ok last m been hm
    rw [z_sm_all, z_ow, if_neg hm]
    cases ok
    · simp only [Bool.false_eq_true, if_false]
      have : ∀ k, z_sum (z_cq F n z goal 0 false last m been) k = 0 := by
        intro k
        induction k with
        | zero => rfl
        | succ k ih => rw [z_sum, ih, z_cq]; simp
      exact this n
    · simp only [if_true]
      refine z_sum_congr n fun q hq => ?_
      rw [z_cq, z_ow]
      by_cases c1 : !been.testBit q && ((F m).testBit q || (F q).testBit m)
      · rw [if_pos c1, c1]
        by_cases c2 : q = goal
        · simp [c2]
        · simp [c2]
      · rw [if_neg c1]
        simp [c1]
  | succ d ih =>
    intro ok last m been hm
    rw [z_sm_all, z_ow, if_neg hm]
    cases ok
    · simp only [Bool.false_eq_true, if_false]
      have : ∀ k, z_sum (z_cq F n z goal (d + 1) false last m been) k = 0 := by
        intro k
        induction k with
        | zero => rfl
        | succ k ihk =>
          rw [z_sum, ihk, z_cq]
          by_cases c2 : k = goal
          · simp [c2]
          · simp only [Bool.false_and, Bool.false_eq_true, if_false, if_neg c2]
            rw [ih false (some m) k (been ||| 2 ^ k) c2]
            simp
      exact this n
    · simp only [if_true]
      refine z_sum_congr n fun q hq => ?_
      rw [z_cq]
      by_cases c1 : !been.testBit q && ((F m).testBit q || (F q).testBit m)
      · rw [if_pos c1, c1]
        by_cases c2 : q = goal
        · rw [if_pos c2]
          subst c2
          rw [z_ow, if_pos rfl]
        · rw [if_neg c2, ih _ (some m) q (been ||| 2 ^ q) c2]
      · rw [if_neg c1]
        simp [c1]
end
