/-! both searches of like graphs find the same -/
theorem z_fo_bit {A B : Nat → Nat} {m : Nat} : ∀ i q r, (z_fo A B m i q).testBit r = true ↔ ∃ j, j < i ∧ ((m.testBit j = true ∧ q = A j ∧ r = B j) ∨ (m.testBit j = false ∧ q = B j ∧ r = A j))
  | 0, q, r => by
    rw [z_fo, Nat.zero_testBit]
    constructor
    · intro h; cases h
    · rintro ⟨j, h, -⟩; omega
  | i + 1, q, r => by
    have ih := z_fo_bit (A := A) (B := B) (m := m) i q r
    have step : (z_fo A B m (i + 1) q).testBit r = true ↔ (z_fo A B m i q).testBit r = true ∨ ((m.testBit i = true ∧ q = A i ∧ r = B i) ∨ (m.testBit i = false ∧ q = B i ∧ r = A i)) := by
      rw [z_fo]
      cases c : m.testBit i with
      | true =>
        rw [if_pos rfl]
        by_cases c1 : q = A i
        · rw [if_pos c1, Nat.testBit_or, Nat.testBit_two_pow, Bool.or_eq_true]
          constructor
          · rintro (h | h)
            · exact Or.inl h
            · exact Or.inr (Or.inl ⟨rfl, c1, (of_decide_eq_true h).symm⟩)
          · rintro (h | ⟨-, -, h⟩ | ⟨h, -, -⟩)
            · exact Or.inl h
            · exact Or.inr (decide_eq_true h.symm)
            · cases h
        · rw [if_neg c1]
          constructor
          · exact Or.inl
          · rintro (h | ⟨-, h, -⟩ | ⟨h, -, -⟩)
            · exact h
            · exact absurd h c1
            · cases h
      | false =>
        rw [if_neg (by decide)]
        by_cases c1 : q = B i
        · rw [if_pos c1, Nat.testBit_or, Nat.testBit_two_pow, Bool.or_eq_true]
          constructor
          · rintro (h | h)
            · exact Or.inl h
            · exact Or.inr (Or.inr ⟨rfl, c1, (of_decide_eq_true h).symm⟩)
          · rintro (h | ⟨h, -, -⟩ | ⟨-, -, h⟩)
            · exact Or.inl h
            · cases h
            · exact Or.inr (decide_eq_true h.symm)
        · rw [if_neg c1]
          constructor
          · exact Or.inl
          · rintro (h | ⟨h, -, -⟩ | ⟨-, h, -⟩)
            · exact h
            · cases h
            · exact absurd h c1
    rw [step, ih]
    constructor
    · rintro (⟨j, h1, h2⟩ | h)
      · exact ⟨j, by omega, h2⟩
      · exact ⟨i, by omega, h⟩
    · rintro ⟨j, h1, h2⟩
      by_cases e : j = i
      · rw [e] at h2; exact Or.inr h2
      · exact Or.inl ⟨j, by omega, h2⟩
theorem z_pl1_nd {f : Nat → Nat} {b : Nat} : ∀ k a, (z_pl1 f b k a).Nodup
  | 0, a => List.nodup_nil
  | k + 1, a => by
    rw [z_pl1, List.nodup_append]
    refine ⟨?_, z_pl1_nd k (a + 1), ?_⟩
    · split
      · exact List.nodup_cons.mpr ⟨List.not_mem_nil, List.nodup_nil⟩
      · exact List.nodup_nil
    · intro x hx y hy e
      split at hx
      · rw [List.mem_singleton] at hx
        have := ((z_pl1_mem k (a + 1)).mp hy).1
        rw [← e, hx] at this
        have t : a + 1 ≤ a := this
        omega
      · cases hx
theorem z_pl_nd {f : Nat → Nat} : ∀ k b, (z_pl f k b).Nodup
  | 0, b => List.nodup_nil
  | k + 1, b => by
    rw [z_pl, List.nodup_append]
    refine ⟨z_pl1_nd b 0, z_pl_nd k (b + 1), ?_⟩
    intro x hx y hy e
    have h1 := ((z_pl1_mem b 0).mp hx).2.2.1
    have h2 := ((z_pl_mem k (b + 1)).mp hy).1
    rw [← e] at h2
    omega
section
variable {n : Nat} {f u : Nat → Nat}
theorem z_ps_at {i : Nat} (hi : i < (z_ps f n).length) : z_pA (z_ps f n) i < z_pB (z_ps f n) i ∧ z_pB (z_ps f n) i < n ∧ (f (z_pB (z_ps f n) i)).testBit (z_pA (z_ps f n) i) = true := by
  have q : (z_pA (z_ps f n) i, z_pB (z_ps f n) i) ∈ z_pl f n 0 := z_pA_mem hi
  obtain ⟨q1, q2, q3, q4⟩ := (z_pl_mem n 0).mp q
  exact ⟨q3, by simpa using q2, q4⟩
theorem z_ps_ix {a b : Nat} (h1 : a < b) (h2 : b < n) (h3 : (f b).testBit a = true) : ∃ i, i < (z_ps f n).length ∧ z_pA (z_ps f n) i = a ∧ z_pB (z_ps f n) i = b := by
  have m : (a, b) ∈ z_ps f n := (z_pl_mem n 0).mpr ⟨by omega, by simpa using h2, h1, h3⟩
  obtain ⟨i, hi, e⟩ := List.getElem_of_mem m
  refine ⟨i, hi, ?_, ?_⟩
  · unfold z_pA; rw [List.getElem?_eq_getElem hi, e]; rfl
  · unfold z_pB; rw [List.getElem?_eq_getElem hi, e]; rfl
theorem z_ps_inj {i j : Nat} (hi : i < (z_ps f n).length) (hj : j < (z_ps f n).length) (h1 : z_pA (z_ps f n) i = z_pA (z_ps f n) j) (h2 : z_pB (z_ps f n) i = z_pB (z_ps f n) j) : i = j := by
  unfold z_pA at h1
  unfold z_pB at h2
  rw [List.getElem?_eq_getElem hi, List.getElem?_eq_getElem hj] at h1 h2
  exact (List.getElem_inj (z_pl_nd n 0)).mp (Prod.ext h1 h2)
/-- the mask of a graph: which arrows are turned in it -/
def z_mo (f : Nat → Nat) (n : Nat) (u : Nat → Nat) : Nat := z_mk (fun i => (u (z_pA (z_ps f n) i)).testBit (z_pB (z_ps f n) i)) (z_ps f n).length
theorem z_mo_U {m : Nat} (hm : m < 2 ^ (z_ps f n).length) : z_mo f n (z_U f n m) = m := by
  apply z_ext (z_mk_lt _ _) hm
  intro q hq
  rw [z_mk_bit, decide_eq_true hq, Bool.true_and]
  obtain ⟨p1, p2, p3⟩ := z_ps_at hq
  apply Bool.eq_iff_iff.mpr
  unfold z_U
  rw [z_fo_bit]
  constructor
  · rintro ⟨j, hj, ⟨h1, h2, h3⟩ | ⟨h1, h2, h3⟩⟩
    · rw [z_ps_inj hq hj h2 h3]; exact h1
    · have := (z_ps_at hj).1
      omega
  · intro h
    exact ⟨q, hq, Or.inl ⟨h, rfl, rfl⟩⟩
theorem z_U_mo (hu : ∀ p, p < n → u p < 2 ^ n) (hu0 : ∀ p, n ≤ p → u p = 0) (hj : ∀ a, a < n → ∀ b, b < n → z_jn u a b = z_jn f a b) (hf : ∀ p, p < n → f p < 2 ^ p) (anti : ∀ a, a < n → ∀ b, b < n → (u a).testBit b = true → (u b).testBit a = false) : z_U f n (z_mo f n u) = u := by
  funext q
  apply Nat.eq_of_testBit_eq
  intro r
  apply Bool.eq_iff_iff.mpr
  unfold z_U
  rw [z_fo_bit]
  have mb : ∀ j, j < (z_ps f n).length → (z_mo f n u).testBit j = (u (z_pA (z_ps f n) j)).testBit (z_pB (z_ps f n) j) := by
    intro j h
    unfold z_mo
    rw [z_mk_bit, decide_eq_true h, Bool.true_and]
  constructor
  · rintro ⟨j, h, ⟨h1, h2, h3⟩ | ⟨h1, h2, h3⟩⟩
    · rw [mb j h] at h1
      rw [h2, h3]; exact h1
    · rw [mb j h] at h1
      obtain ⟨p1, p2, p3⟩ := z_ps_at h
      have e := hj _ (Nat.lt_trans p1 p2) _ p2
      rw [z_jn, z_jn, h1, p3, Bool.or_true, Bool.false_or] at e
      rw [h2, h3]; exact e
  · intro h
    have hq : q < n := by
      apply Classical.byContradiction
      intro c
      rw [hu0 q (by omega), Nat.zero_testBit] at h
      cases h
    have hr : r < n := by
      apply Classical.byContradiction
      intro c
      rw [z_hi (hu q hq) (by omega)] at h
      cases h
    have e := hj q hq r hr
    rw [z_jn, h, Bool.true_or, z_jn] at e
    have e' := e.symm
    rw [Bool.or_eq_true] at e'
    have low : ∀ a b, b < n → (f b).testBit a = true → a < b := by
      intro a b hb hab
      apply Classical.byContradiction
      intro c
      rw [z_hi (hf b hb) (by omega)] at hab
      cases hab
    rcases e' with g | g
    · obtain ⟨j, j1, j2, j3⟩ := z_ps_ix (low r q hq g) hq g
      refine ⟨j, j1, Or.inr ⟨?_, j3.symm, j2.symm⟩⟩
      rw [mb j j1, j2, j3]
      exact anti q hq r hr h
    · obtain ⟨j, j1, j2, j3⟩ := z_ps_ix (low q r hr g) hr g
      refine ⟨j, j1, Or.inl ⟨?_, j2.symm, j3.symm⟩⟩
      rw [mb j j1, j2, j3]
      exact h
theorem z_nr_anti (hn : n ≤ 6) (hu : ∀ p, p < n → u p < 64) (h : z_nr n u = true) : ∀ a, a < n → ∀ b, b < n → (u a).testBit b = true → (u b).testBit a = false := by
  intro a ha b hb hab
  cases c : (u b).testBit a with
  | false => rfl
  | true =>
    have bit : ∀ q, q < n → (z_mk (fun r => !decide (r = a) && !decide (r = b)) n).testBit q = (!decide (q = a) && !decide (q = b)) := fun q hq => by rw [z_mk_bit, decide_eq_true hq, Bool.true_and]
    obtain ⟨p, p1, p2, p3⟩ := z_nr_av (T := z_mk (fun r => !decide (r = a) && !decide (r = b)) n) hu hn h ha (by rw [bit a ha]; simp)
    rw [bit p p1] at p2
    have : p = a ∨ p = b := by
      by_cases e1 : p = a
      · exact Or.inl e1
      · by_cases e2 : p = b
        · exact Or.inr e2
        · simp [e1, e2] at p2
    rcases this with e | e
    · rw [e] at p3
      have := p3 b hab
      rw [bit b hb] at this
      simp at this
    · rw [e] at p3
      have := p3 a c
      rw [bit a ha] at this
      simp at this
theorem z_ctb_len {G : Nat → Bool} : ∀ M, z_ctb G M = ((List.range M).filter G).length
  | 0 => rfl
  | M + 1 => by
    rw [z_ctb, z_ctb_len M, List.range_succ, List.filter_append, List.length_append]
    cases c : G M <;> simp [c]
theorem z_an_bit {G : Nat → Bool} {U : Nat → Nat → Nat} {s : Nat → Nat} {p r : Nat} : ∀ M, (z_an G U s M p).testBit r = true ↔ (s p).testBit r = true ∧ ∀ m, m < M → G m = true → (U m p).testBit r = true
  | 0 => by
    rw [z_an]
    exact ⟨fun h => ⟨h, fun m hm => absurd hm (by omega)⟩, fun h => h.1⟩
  | M + 1 => by
    rw [z_an]
    cases c : G M with
    | false =>
      rw [if_neg (by decide), z_an_bit M]
      constructor
      · rintro ⟨h1, h2⟩
        refine ⟨h1, fun m hm hg => ?_⟩
        by_cases e : m = M
        · rw [e, c] at hg; cases hg
        · exact h2 m (by omega) hg
      · rintro ⟨h1, h2⟩
        exact ⟨h1, fun m hm hg => h2 m (by omega) hg⟩
    | true =>
      rw [if_pos rfl, Nat.testBit_and, Bool.and_eq_true, z_an_bit M]
      constructor
      · rintro ⟨⟨h1, h2⟩, h3⟩
        refine ⟨h1, fun m hm hg => ?_⟩
        by_cases e : m = M
        · rw [e]; exact h3
        · exact h2 m (by omega) hg
      · rintro ⟨h1, h2⟩
        exact ⟨⟨h1, fun m hm hg => h2 m (by omega) hg⟩, h2 M (by omega) c⟩
theorem z_fand_bit {bs : Nat → Nat} {p r : Nat} : ∀ (l : List (List Nat)) (S : Nat → Nat), (z_fand bs l S p).testBit r = true ↔ (S p).testBit r = true ∧ ∀ x, x ∈ l → (z_uo bs x p).testBit r = true
  | [], S => by
    rw [z_fand]
    exact ⟨fun h => ⟨h, fun x hx => absurd hx List.not_mem_nil⟩, fun h => h.1⟩
  | o :: l, S => by
    rw [z_fand, z_fand_bit l]
    show (S p &&& z_uo bs o p).testBit r = true ∧ _ ↔ _
    rw [Nat.testBit_and, Bool.and_eq_true]
    constructor
    · rintro ⟨⟨h1, h2⟩, h3⟩
      refine ⟨h1, fun x hx => ?_⟩
      rcases List.mem_cons.mp hx with e | e
      · rw [e]; exact h2
      · exact h3 x e
    · rintro ⟨h1, h2⟩
      exact ⟨⟨h1, h2 o List.mem_cons_self⟩, fun x hx => h2 x (List.mem_cons_of_mem _ hx)⟩
theorem z_bsd_jn (hn : n ≤ 6) (hf : ∀ p, p < n → f p < 2 ^ p) : ∀ a, a < n → ∀ b, b < n → (z_bsd f n a).testBit b = z_jn f a b := by
  intro a ha b hb
  unfold z_bsd z_jn
  rw [Nat.testBit_or, z_mk_bit, decide_eq_true hb, Bool.true_and]
theorem z_bsd_0 (hn : n ≤ 6) (hf : ∀ p, p < n → f p < 2 ^ p) : ∀ a, a < n → (z_bsd f n a).testBit a = false := by
  intro a ha
  rw [z_bsd_jn hn hf a ha a ha, z_jn, z_hi (hf a ha) (Nat.le_refl _)]
  rfl
/-- each order of the class, and the mask of its graph -/
theorem z_leaf (hn : n ≤ 6) (hf : ∀ p, p < n → f p < 2 ^ p) {x : List Nat} (hx : x ∈ z_lv (z_bsd f n) f n n []) : x.length = n ∧ z_vl (z_bsd f n) f n x ∧ z_U f n (z_mo f n (z_uo (z_bsd f n) x)) = z_uo (z_bsd f n) x ∧ z_nr n (z_uo (z_bsd f n) x) = true ∧ z_shp n (z_uo (z_bsd f n) x) f = true := by
  obtain ⟨e, h1, h2⟩ := z_lv_sub n [] x hx
  have hl : x.length = n := by rw [h1, List.append_nil, h2]
  have hv := z_lv_vl n [] x trivial hx
  have hb : ∀ p, p < n → z_bsd f n p < 64 := fun p hp => z_bsd64 hn hf hp
  have hfn : ∀ p, p < n → f p < 2 ^ n := fun p hp => Nat.lt_of_lt_of_le (hf p hp) (Nat.pow_le_pow_right (by omega) (by omega))
  obtain ⟨g1, g2, g3⟩ := z_vl_good hn hb hfn (z_bsd_jn hn hf) (z_bsd_0 hn hf) hl hv
  have p2 : 2 ^ n ≤ 64 := z_pow hn
  have g := z_vl_go x hv
  refine ⟨hl, hv, z_U_mo g3 (fun p hp => z_uo_out x (fun e => by have := g.2 p e; omega)) (fun a ha b hb => ((z_shp_iff).mp g2 a ha b hb).1) hf (z_nr_anti hn (fun p hp => Nat.lt_of_lt_of_le (g3 p hp) p2) g1), g1, g2⟩
theorem z_leaf_ex (hn : n ≤ 6) (hf : ∀ p, p < n → f p < 2 ^ p) {m : Nat} (hm : z_G f n m = true) : ∃ x, x ∈ z_lv (z_bsd f n) f n n [] ∧ z_uo (z_bsd f n) x = z_U f n m := by
  have hb : ∀ p, p < n → z_bsd f n p < 64 := fun p hp => z_bsd64 hn hf hp
  have hfn : ∀ p, p < n → f p < 2 ^ n := fun p hp => Nat.lt_of_lt_of_le (hf p hp) (Nat.pow_le_pow_right (by omega) (by omega))
  have hm' : (z_nr n (z_U f n m) && z_shp n (z_U f n m) f) = true := hm
  rw [Bool.and_eq_true] at hm'
  have bits : ∀ p q, (z_U f n m p).testBit q = true → p < n ∧ q < n := by
    intro p q h
    unfold z_U at h
    rw [z_fo_bit] at h
    obtain ⟨j, hj, ⟨-, h2, h3⟩ | ⟨-, h2, h3⟩⟩ := h
    · obtain ⟨p1, p2, -⟩ := z_ps_at hj
      rw [h2, h3]; exact ⟨by omega, by omega⟩
    · obtain ⟨p1, p2, -⟩ := z_ps_at hj
      rw [h2, h3]; exact ⟨by omega, by omega⟩
  have hu : ∀ p, p < n → z_U f n m p < 2 ^ n := by
    intro p hp
    apply Nat.lt_pow_two_of_testBit
    intro q hq
    cases e : (z_U f n m p).testBit q with
    | false => rfl
    | true =>
      have := (bits p q e).2
      omega
  obtain ⟨x, x1, x2, x3⟩ := z_good_vl hn hb hfn (z_bsd_jn hn hf) hu hm'.1 hm'.2
  refine ⟨x, ?_, ?_⟩
  · have := z_lv_in (bs := z_bsd f n) (f := f) (n := n) n x [] x1 (by rw [List.append_nil]; exact x2)
    rw [List.append_nil] at this
    exact this
  · funext p
    by_cases c : p < n
    · exact x3 p c
    · rw [z_uo_out x (fun e => c ((z_vl_go x x2).2 p e))]
      apply Nat.eq_of_testBit_eq
      intro q
      rw [Nat.zero_testBit]
      cases e : (z_U f n m p).testBit q with
      | false => rfl
      | true => exact absurd (bits p q e).1 c
theorem z_like_len (hn : n ≤ 6) (hf : ∀ p, p < n → f p < 2 ^ p) : (z_lv (z_bsd f n) f n n []).length = z_cnt f n := by
  unfold z_cnt
  rw [z_ctb_len]
  have e : (z_lv (z_bsd f n) f n n []).length = ((z_lv (z_bsd f n) f n n []).map (fun x => z_mo f n (z_uo (z_bsd f n) x))).length := (List.length_map _).symm
  rw [e]
  apply List.Perm.length_eq
  rw [List.perm_ext_iff_of_nodup]
  · intro m
    rw [List.mem_map, List.mem_filter, List.mem_range]
    constructor
    · rintro ⟨x, h1, h2⟩
      obtain ⟨a1, a2, a3, a4, a5⟩ := z_leaf hn hf h1
      refine ⟨by rw [← h2]; exact z_mk_lt _ _, ?_⟩
      show (z_nr n (z_U f n m) && z_shp n (z_U f n m) f) = true
      rw [← h2, a3, a4, a5]
      rfl
    · rintro ⟨h1, h2⟩
      obtain ⟨x, x1, x2⟩ := z_leaf_ex hn hf h2
      exact ⟨x, x1, by rw [x2]; exact z_mo_U h1⟩
  · unfold List.Nodup
    rw [List.pairwise_map]
    refine List.Pairwise.imp_of_mem ?_ (z_lv_nodup n [])
    intro x y hx hy ne he
    obtain ⟨a1, a2, a3, -⟩ := z_leaf hn hf hx
    obtain ⟨b1, b2, b3, -⟩ := z_leaf hn hf hy
    apply ne
    apply z_vl_one a1 b1 a2 b2
    intro p _
    rw [← a3, ← b3, he]
  · exact List.Pairwise.filter _ List.nodup_range
theorem z_like_and (hn : n ≤ 6) (hf : ∀ p, p < n → f p < 2 ^ p) (p : Nat) : z_fand (z_bsd f n) (z_lv (z_bsd f n) f n n []) f p = z_su f n p := by
  apply Nat.eq_of_testBit_eq
  intro r
  apply Bool.eq_iff_iff.mpr
  unfold z_su
  rw [z_fand_bit, z_an_bit]
  constructor
  · rintro ⟨h1, h2⟩
    refine ⟨h1, fun m hm hg => ?_⟩
    obtain ⟨x, x1, x2⟩ := z_leaf_ex hn hf hg
    rw [← x2]; exact h2 x x1
  · rintro ⟨h1, h2⟩
    refine ⟨h1, fun x hx => ?_⟩
    obtain ⟨a1, a2, a3, a4, a5⟩ := z_leaf hn hf hx
    have := h2 (z_mo f n (z_uo (z_bsd f n) x)) (z_mk_lt _ _) (by
      show (z_nr n (z_U f n _) && z_shp n (z_U f n _) f) = true
      rw [a3, a4, a5]; rfl)
    rw [a3] at this
    exact this
end
