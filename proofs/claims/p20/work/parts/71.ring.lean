/-! the ring test: it holds just where there is an order -/
def z_top (u : Nat → Nat) : List Nat → Prop
  | [] => True
  | p :: o => (∀ q, (u p).testBit q = true → q ∈ o) ∧ z_top u o
section
variable {n : Nat} {u : Nat → Nat}
theorem z_and0 {a s : Nat} (ha : a < 64) (hs : s < 64) : a &&& (63 - s) = 0 ↔ ∀ q, a.testBit q = true → s.testBit q = true := by
  constructor
  · intro h q hq
    have q6 : q < 6 := by
      apply Classical.byContradiction
      intro c
      rw [z_hi (n := 6) ha (by omega)] at hq
      cases hq
    have := congrArg (fun x => x.testBit q) h
    simp only [Nat.testBit_and, Nat.zero_testBit, z_cpl s hs q q6, hq, Bool.true_and] at this
    simpa using this
  · intro h
    apply z_ext (n := 6) (Nat.lt_of_le_of_lt Nat.and_le_left ha) (by omega)
    intro q hq
    rw [Nat.testBit_and, z_cpl s hs q hq, Nat.zero_testBit]
    cases c : a.testBit q with
    | false => rfl
    | true => rw [h q c]; rfl
theorem z_ri_mono (hu : ∀ p, p < n → u p < 64) : ∀ k j s q, j + k ≤ n → n ≤ 6 → s < 64 → s.testBit q = true → (z_ri u k j s).testBit q = true
  | 0, _, _, _, _, _, _, h => h
  | k + 1, j, s, q, hj, hn, hs, h => by
    rw [z_ri]
    split
    · exact z_ri_mono hu k (j + 1) _ q (by omega) hn (z_or64p hs (by omega)) (by rw [Nat.testBit_or, h]; rfl)
    · exact z_ri_mono hu k (j + 1) _ q (by omega) hn hs h
theorem z_ri_add (hu : ∀ p, p < n → u p < 64) : ∀ k j s p, j + k ≤ n → n ≤ 6 → s < 64 → j ≤ p → p < j + k → (∀ q, (u p).testBit q = true → s.testBit q = true) → (z_ri u k j s).testBit p = true
  | 0, _, _, _, _, _, _, _, _, _ => by omega
  | k + 1, j, s, p, hj, hn, hs, h1, h2, h => by
    rw [z_ri]
    by_cases c : p = j
    · subst c
      rw [if_pos ((z_and0 (hu p (by omega)) hs).mpr h)]
      exact z_ri_mono hu k (p + 1) _ p (by omega) hn (z_or64p hs (by omega)) (by rw [Nat.testBit_or, Nat.testBit_two_pow]; simp)
    · split
      · exact z_ri_add hu k (j + 1) _ p (by omega) hn (z_or64p hs (by omega)) (by omega) (by omega) (fun q hq => by rw [Nat.testBit_or, h q hq]; rfl)
      · exact z_ri_add hu k (j + 1) _ p (by omega) hn hs (by omega) (by omega) h
theorem z_ri_in {T : Nat} (hu : ∀ p, p < n → u p < 64) (hT : ∀ p, p < n → (∀ q, (u p).testBit q = true → T.testBit q = true) → T.testBit p = true) : ∀ k j s, j + k ≤ n → n ≤ 6 → s < 64 → (∀ q, s.testBit q = true → T.testBit q = true) → ∀ q, (z_ri u k j s).testBit q = true → T.testBit q = true
  | 0, _, _, _, _, _, h => h
  | k + 1, j, s, hj, hn, hs, h => by
    rw [z_ri]
    by_cases c : u j &&& (63 - s) = 0
    · rw [if_pos c]
      have hj' := hT j (by omega) (fun q hq => h q ((z_and0 (hu j (by omega)) hs).mp c q hq))
      refine z_ri_in hu hT k (j + 1) _ (by omega) hn (z_or64p hs (by omega)) (fun q hq => ?_)
      rw [Nat.testBit_or, Bool.or_eq_true] at hq
      rcases hq with e | e
      · exact h q e
      · rw [Nat.testBit_two_pow] at e
        have : j = q := by simpa using e
        rw [← this]; exact hj'
    · rw [if_neg c]
      exact z_ri_in hu hT k (j + 1) s (by omega) hn hs h
theorem z_ro64 (hn : n ≤ 6) : ∀ k s, s < 64 → z_ro u n k s < 64
  | 0, _, h => h
  | k + 1, s, h => z_ro64 hn k _ (z_ri64 n 0 s (by omega) h)
theorem z_ro_last : ∀ k s, z_ro u n (k + 1) s = z_ri u n 0 (z_ro u n k s)
  | 0, _ => rfl
  | k + 1, s => by
    rw [z_ro, z_ro_last k (z_ri u n 0 s)]
    rfl
theorem z_ro_in {T : Nat} (hu : ∀ p, p < n → u p < 64) (hn : n ≤ 6) (hT : ∀ p, p < n → (∀ q, (u p).testBit q = true → T.testBit q = true) → T.testBit p = true) : ∀ k s, s < 64 → (∀ q, s.testBit q = true → T.testBit q = true) → ∀ q, (z_ro u n k s).testBit q = true → T.testBit q = true
  | 0, _, _, h => h
  | k + 1, s, hs, h => z_ro_in hu hn hT k _ (z_ri64 n 0 s (by omega) hs) (z_ri_in hu hT n 0 s (by omega) hn hs h)
/-- no ring: outside each set of places that is not all of them one stands whose parents are in the set -/
theorem z_nr_av (hu : ∀ p, p < n → u p < 64) (hn : n ≤ 6) (h : z_nr n u = true) {T p0 : Nat} (hp0 : p0 < n) (hT0 : T.testBit p0 = false) : ∃ p, p < n ∧ T.testBit p = false ∧ ∀ q, (u p).testBit q = true → T.testBit q = true := by
  apply Classical.byContradiction
  intro c
  have hT : ∀ p, p < n → (∀ q, (u p).testBit q = true → T.testBit q = true) → T.testBit p = true := by
    intro p hp hq
    cases e : T.testBit p with
    | true => rfl
    | false => exact absurd ⟨p, hp, e, hq⟩ c
  unfold z_nr at h
  have e := of_decide_eq_true h
  have r := z_ro_in hu hn hT n 0 (by omega) (fun q hq => by simp at hq) p0
  rw [e] at r
  rw [r (by rw [Nat.testBit_two_pow_sub_one]; simpa using hp0)] at hT0
  cases hT0
theorem z_top_nr (hu : ∀ p, p < n → u p < 64) (hn : n ≤ 6) {x : List Nat} (hx : z_go n x) (hl : x.length = n) (ht : z_top u x) : z_nr n u = true := by
  have go : ∀ o : List Nat, (∀ p, p ∈ o → p < n) → z_top u o → ∀ q, q ∈ o → (z_ro u n o.length 0).testBit q = true := by
    intro o
    induction o with
    | nil => intro _ _ q hq; cases hq
    | cons p o ih =>
      intro ho ht q hq
      have i := ih (fun r hr => ho r (List.mem_cons_of_mem _ hr)) ht.2
      have s64 := z_ro64 (u := u) hn o.length 0 (by omega)
      rw [List.length_cons, z_ro_last]
      rcases List.mem_cons.mp hq with e | e
      · rw [e]
        exact z_ri_add hu n 0 _ p (by omega) hn s64 (by omega) (by have := ho p List.mem_cons_self; omega) (fun r hr => i r (ht.1 r hr))
      · exact z_ri_mono hu n 0 _ q (by omega) hn s64 (i q e)
  have g := go x hx.2 ht
  rw [hl] at g
  have top : ∀ q, (z_ro u n n 0).testBit q = true → (2 ^ n - 1).testBit q = true := z_ro_in hu hn (fun p hp _ => by rw [Nat.testBit_two_pow_sub_one]; simpa using hp) n 0 (by omega) (fun q hq => by simp at hq)
  unfold z_nr
  apply decide_eq_true
  have p2 : 2 ^ n ≤ 64 := z_pow hn
  have p3 := Nat.two_pow_pos n
  apply z_ext (n := 6) (z_ro64 hn n 0 (by omega)) (by omega)
  intro q hq
  by_cases c : q < n
  · rw [g q (z_allin hx hl q c), Nat.testBit_two_pow_sub_one]
    simpa using c
  · cases e : (z_ro u n n 0).testBit q with
    | true => exact (top q e).symm
    | false => rw [Nat.testBit_two_pow_sub_one]; simpa using c
end
