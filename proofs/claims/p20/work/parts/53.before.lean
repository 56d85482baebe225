/-! those that a place is after; told, of the class -/
def z_bf (f : Nat → Nat) : Nat → Nat → Nat
  | 0, a => a
  | k + 1, a => z_bf f k (if a.testBit k then a ||| f k else a)
section
variable {f : Nat → Nat} {n : Nat}
theorem z_bf_sub : ∀ k a i, a.testBit i = true → (z_bf f k a).testBit i = true
  | 0, _, _, hi => hi
  | k + 1, a, i, hi => by
    rw [z_bf]
    apply z_bf_sub k
    split
    · rw [Nat.testBit_or, hi]; rfl
    · exact hi
theorem z_bf_hi : ∀ k a i, (∀ j, j < k → f j < 2 ^ j) → k ≤ i + 1 → (z_bf f k a).testBit i = a.testBit i
  | 0, _, _, _, _ => rfl
  | k + 1, a, i, hf, hk => by
    rw [z_bf, z_bf_hi k _ i (fun j hj => hf j (by omega)) (by omega)]
    split
    · rw [Nat.testBit_or, z_hi (hf k (by omega)) (by omega), Bool.or_false]
    · rfl
theorem z_bf_cl : ∀ k a j, (∀ j, j < k → f j < 2 ^ j) → j < k → (z_bf f k a).testBit j = true → ∀ i, (f j).testBit i = true → (z_bf f k a).testBit i = true
  | 0, _, _, _, h, _, _, _ => by omega
  | k + 1, a, j, hf, hj, hb, i, hi => by
    rw [z_bf] at hb ⊢
    by_cases c : j = k
    · subst c
      rw [z_bf_hi j _ j (fun q hq => hf q (by omega)) (by omega)] at hb
      by_cases d : a.testBit j = true
      · rw [if_pos d]
        apply z_bf_sub
        rw [Nat.testBit_or, hi, Bool.or_true]
      · rw [if_neg d] at hb; exact absurd hb d
    · exact z_bf_cl k _ j (fun q hq => hf q (by omega)) (by omega) hb i hi
theorem z_bf_src : ∀ k a i, (∀ j, j < k → f j < 2 ^ j) → (z_bf f k a).testBit i = true → a.testBit i = true ∨ ∃ j, j < k ∧ (z_bf f k a).testBit j = true ∧ (f j).testBit i = true
  | 0, _, _, _, h => Or.inl h
  | k + 1, a, i, hf, hb => by
    rw [z_bf] at hb ⊢
    rcases z_bf_src k _ i (fun q hq => hf q (by omega)) hb with r | ⟨j, hj, r1, r2⟩
    · by_cases d : a.testBit k = true
      · rw [if_pos d] at r
        rw [Nat.testBit_or, Bool.or_eq_true] at r
        rcases r with r | r
        · exact Or.inl r
        · refine Or.inr ⟨k, by omega, ?_, r⟩
          apply z_bf_sub
          rw [if_pos d, Nat.testBit_or, d]; rfl
      · rw [if_neg d] at r; exact Or.inl r
    · exact Or.inr ⟨j, by omega, r1, r2⟩
theorem z_bf_lt {p : Nat} : ∀ k a, (∀ j, j < k → f j < 2 ^ p) → a < 2 ^ p → z_bf f k a < 2 ^ p
  | 0, _, _, h => h
  | k + 1, a, hf, h => by
    rw [z_bf]
    apply z_bf_lt k _ (fun j hj => hf j (by omega))
    split
    · exact Nat.or_lt_two_pow h (hf k (by omega))
    · exact h
theorem z_t63 {j : Nat} (hj : j < 6) : (63 : Nat).testBit j = true := by
  obtain rfl | rfl | rfl | rfl | rfl | rfl : j = 0 ∨ j = 1 ∨ j = 2 ∨ j = 3 ∨ j = 4 ∨ j = 5 := by omega
  all_goals decide
theorem z_an_iff (hn : n ≤ 6) (hf : ∀ p, p < n → f p < 2 ^ p) {q r : Nat} (hr : r < n) : (z_rc f 63 q n).testBit r = true ↔ ∃ j, (f r).testBit j = true ∧ (j = q ∨ (z_rc f 63 q n).testBit j = true) := by
  rw [z_rc_iff hf hr]
  constructor
  · rintro ⟨j, h1, h2⟩
    rcases h2 with h2 | h2
    · exact ⟨j, h1, Or.inl h2⟩
    · exact ⟨j, h1, Or.inr h2.2⟩
  · rintro ⟨j, h1, h2⟩
    refine ⟨j, h1, ?_⟩
    rcases h2 with h2 | h2
    · exact Or.inl h2
    · exact Or.inr ⟨z_t63 (by have := z_bn (hf r hr) h1; omega), h2⟩
theorem z_an_trans (hn : n ≤ 6) (hf : ∀ p, p < n → f p < 2 ^ p) {q k : Nat} (hk : (z_rc f 63 q n).testBit k = true) : ∀ m r, r ≤ m → r < n → (z_rc f 63 k n).testBit r = true → (z_rc f 63 q n).testBit r = true := by
  intro m
  induction m with
  | zero =>
    intro r hm hr hb
    obtain ⟨j, h1, h2⟩ := (z_an_iff hn hf hr).mp hb
    have := z_bn (hf r hr) h1
    omega
  | succ m ih =>
    intro r hm hr hb
    obtain ⟨j, h1, h2⟩ := (z_an_iff hn hf hr).mp hb
    have hjr := z_bn (hf r hr) h1
    rw [z_an_iff hn hf hr]
    rcases h2 with h2 | h2
    · subst h2; exact ⟨j, h1, Or.inr hk⟩
    · exact ⟨j, h1, Or.inr (ih j (by omega) (by omega) h2)⟩
theorem z_bf_after (hn : n ≤ 6) (hf : ∀ p, p < n → f p < 2 ^ p) {p : Nat} (hp : p < n) : z_bf f p (f p) = z_mk (fun q => (z_rc f 63 q n).testBit p) n := by
  have hfp : ∀ j, j < p → f j < 2 ^ j := fun j hj => hf j (by omega)
  have hlt : z_bf f p (f p) < 2 ^ p := z_bf_lt p _ (fun j hj => Nat.lt_trans (hf j (by omega)) (z_p2 hj)) (hf p hp)
  apply z_ext (n := n) (Nat.lt_trans hlt (z_p2 hp)) (z_mk_lt _ n)
  intro q hq
  rw [z_mk_bit, decide_eq_true hq, Bool.true_and, Bool.eq_iff_iff]
  constructor
  · intro hb
    have go : ∀ m q, p ≤ q + m → (z_bf f p (f p)).testBit q = true → (z_rc f 63 q n).testBit p = true := by
      intro m
      induction m with
      | zero =>
        intro q hm hb
        have := z_bn hlt hb
        omega
      | succ m ih =>
        intro q hm hb
        rcases z_bf_src p _ q hfp hb with r | ⟨k, hk, r1, r2⟩
        · exact (z_an_iff hn hf hp).mpr ⟨q, r, Or.inl rfl⟩
        · have hqk := z_bn (hf k (by omega)) r2
          have h1 := ih k (by omega) r1
          have h2 : (z_rc f 63 q n).testBit k = true := (z_an_iff hn hf (by omega)).mpr ⟨q, r2, Or.inl rfl⟩
          exact z_an_trans hn hf h2 p p (Nat.le_refl p) hp h1
    exact go p q (by omega) hb
  · intro hb
    have go : ∀ m r, r ≤ m → r < n → (r = p ∨ (z_bf f p (f p)).testBit r = true) → (z_rc f 63 q n).testBit r = true → (z_bf f p (f p)).testBit q = true := by
      intro m
      induction m with
      | zero =>
        intro r hm hr ho ha
        obtain ⟨j, h1, h2⟩ := (z_an_iff hn hf hr).mp ha
        have := z_bn (hf r hr) h1
        omega
      | succ m ih =>
        intro r hm hr ho ha
        obtain ⟨j, h1, h2⟩ := (z_an_iff hn hf hr).mp ha
        have hjr := z_bn (hf r hr) h1
        have hjB : (z_bf f p (f p)).testBit j = true := by
          rcases ho with ho | ho
          · subst ho; exact z_bf_sub r _ j h1
          · exact z_bf_cl p _ r hfp (z_bn hlt ho) ho j h1
        rcases h2 with h2 | h2
        · subst h2; exact hjB
        · exact ih j (by omega) (by omega) (Or.inr hjB) h2
    exact go p p (Nat.le_refl p) hp (Or.inl rfl) hb
end
section
variable {w : x_W} {a n : Nat} {f : Nat → Nat}
theorem z_before (H : z_arr w a n f) {p : Nat} (hp : p < n) : fR_beforeOf w a (nI p) = some (nI (z_bf f p (f p))) := by
  obtain ⟨hn, hf, hob, hfi, pa, hfr, hai⟩ := H
  have loop : ∀ k c fuel, k ≤ p → k < fuel → c < 64 → fR_beforeOf_11 w fuel a (nI c) (nI k - 1) = some (nI (z_bf f k c)) := by
    intro k
    induction k with
    | zero =>
      intro c fuel hk hl hc
      obtain ⟨m, rfl⟩ := z_suc hl
      rw [fR_beforeOf_11, if_pos (by decide)]
      rfl
    | succ k ih =>
      intro c fuel hk hl hc
      obtain ⟨m, rfl⟩ := z_suc hl
      have hf64 : f k < 64 := z_h64 (show k ≤ 6 by omega) (hf k (by omega))
      have e1 : nI (k + 1) - 1 = nI k := by rw [show (1 : Int32) = nI 1 from rfl, pk_sub (by omega)]; rfl
      have e2 : nI k + (-1) = nI k - 1 := (Int32.sub_eq_add_neg (nI k) 1).symm
      rw [fR_beforeOf_11, e1, e2, if_neg (nI_pos (by omega)), z_has c hc k (by omega), hfr, Option.bind_some, hai k (by omega), Option.bind_some, z_or, z_bf]
      by_cases d : c.testBit k = true
      · rw [if_pos d, if_neg (by decide), if_pos d]
        exact ih _ m (by omega) (by omega) (Nat.or_lt_two_pow (n := 6) hc hf64)
      · rw [if_neg d, if_pos rfl, if_neg d]
        exact ih _ m (by omega) (by omega) hc
  unfold fR_beforeOf
  rw [hfr, Option.bind_some, hai p hp, Option.bind_some]
  exact loop p (f p) x_F (Nat.le_refl p) (by unfold x_F; omega) (z_h64 (show p ≤ 6 by omega) (hf p hp))
end
section
variable {w : x_W} {g n h : Nat} {f : Nat → Nat} {t : Nat → Nat → Nat}
theorem z_Ctold (A : z_A w g) (G : z_gc w g n f t h) {p : Nat} (hp : p < n) (c : h.testBit p = false) : fA_told w 0 (nI p) = some (z_told f n h p) := by
  have hn := G.1.2.1
  have hh := z_h64 hn G.1.2.2.2.2
  unfold fA_told z_told
  rw [(z_A0 A).1, Option.bind_some, z_isPl A G hp, Option.bind_some, if_neg (by decide), (z_A0 A).2.1, Option.bind_some, (z_G0 G).2.2.2.1, Option.bind_some, z_has h hh p (by omega), c, z_seen (z_gc_gr G) hp, Option.bind_some, z_clump (z_gc_gr G) hp, Option.bind_some, z_and]
  have l : z_sn f n h p &&& z_cl f n h p < 64 := Nat.lt_of_le_of_lt Nat.and_le_left (z_sn64 hh)
  by_cases d : z_sn f n h p &&& z_cl f n h p = 0
  · rw [if_pos ((z_nz (by omega)).mpr d), if_pos d]; rfl
  · rw [if_neg (fun z => d ((z_nz (by omega)).mp z)), if_neg d]; rfl
theorem z_Ctold0 (A : z_A w g) (G : z_gc w g n f t h) {x : Int32} (hx : ¬ ∃ k, k < n ∧ h.testBit k = false ∧ x = nI k) : fA_told w 0 x = some (-2) := by
  have hn := G.1.2.1
  have hh := z_h64 hn G.1.2.2.2.2
  unfold fA_told
  rw [(z_A0 A).1, Option.bind_some]
  by_cases c : ∃ k, k < n ∧ x = nI k
  · obtain ⟨p, hp, rfl⟩ := c
    have c1 : h.testBit p = true := by
      cases z : h.testBit p
      · exact absurd ⟨p, hp, z, rfl⟩ hx
      · rfl
    rw [z_isPl A G hp, Option.bind_some, if_neg (by decide), (z_A0 A).2.1, Option.bind_some, (z_G0 G).2.2.2.1, Option.bind_some, z_has h hh p (by omega), c1]
    rfl
  · rw [z_isPl0 A G c, Option.bind_some, if_pos rfl]
end
