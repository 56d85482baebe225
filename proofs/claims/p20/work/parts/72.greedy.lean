/-! the class's orders and the graphs like this one: one of these for each of those -/
/-- always the least of the places whose parents are laid -/
def z_grd (u : Nat → Nat) (n : Nat) : List Nat → Prop
  | [] => True
  | p :: o => (p < n ∧ p ∉ o ∧ (∀ q, (u p).testBit q = true → q ∈ o) ∧ ∀ r, r < n → r ∉ o → (∀ q, (u r).testBit q = true → q ∈ o) → p ≤ r) ∧ z_grd u n o
theorem z_minx {P : Nat → Prop} : ∀ k, P k → ∃ p, P p ∧ ∀ r, P r → p ≤ r := by
  intro k
  induction k using Nat.strongRecOn with
  | _ k ih =>
    intro hk
    by_cases c : ∃ j, j < k ∧ P j
    · obtain ⟨j, h1, h2⟩ := c
      exact ih j h1 h2
    · exact ⟨k, hk, fun r hr => by
        apply Classical.byContradiction
        intro q
        exact c ⟨r, by omega, hr⟩⟩
section
variable {n : Nat} {u u' f bs : Nat → Nat}
theorem z_grd_go : ∀ o, z_grd u n o → z_go n o
  | [], _ => ⟨List.nodup_nil, fun p hp => absurd hp List.not_mem_nil⟩
  | p :: o, ⟨⟨h1, h2, h3, h4⟩, h5⟩ => by
    obtain ⟨g1, g2⟩ := z_grd_go o h5
    refine ⟨List.nodup_cons.mpr ⟨h2, g1⟩, fun q hq => ?_⟩
    rcases List.mem_cons.mp hq with e | e
    · rw [e]; exact h1
    · exact g2 q e
theorem z_grd_top : ∀ o, z_grd u n o → z_top u o
  | [], _ => trivial
  | p :: o, ⟨⟨h1, h2, h3, h4⟩, h5⟩ => ⟨h3, z_grd_top o h5⟩
theorem z_grd_one (he : ∀ p, p < n → u p = u' p) : ∀ o o', o.length = o'.length → z_grd u n o → z_grd u' n o' → o = o'
  | [], [], _, _, _ => rfl
  | [], q :: o', h, _, _ => by simp at h
  | p :: o, [], h, _, _ => by simp at h
  | p :: o, q :: o', h, ⟨⟨a1, a2, a3, a4⟩, a5⟩, ⟨⟨b1, b2, b3, b4⟩, b5⟩ => by
    have e := z_grd_one he o o' (by simpa using h) a5 b5
    subst e
    have h1 := a4 q b1 b2 (by rw [he q b1]; exact b3)
    have h2 := b4 p a1 a2 (by rw [← he p a1]; exact a3)
    have : p = q := by omega
    rw [this]
theorem z_grd_ex (hu : ∀ p, p < n → u p < 64) (hn : n ≤ 6) (h : z_nr n u = true) : ∀ k, k ≤ n → ∃ x : List Nat, x.length = k ∧ z_grd u n x
  | 0, _ => ⟨[], rfl, trivial⟩
  | k + 1, hk => by
    obtain ⟨x, h1, h2⟩ := z_grd_ex hu hn h k (by omega)
    have hout : ∃ p0, p0 < n ∧ p0 ∉ x := by
      apply Classical.byContradiction
      intro c
      have hs : List.range n ⊆ x := by
        intro p hp
        apply Classical.byContradiction
        intro q
        exact c ⟨p, List.mem_range.mp hp, q⟩
      have := List.Nodup.length_le_of_subset List.nodup_range hs
      rw [List.length_range] at this
      omega
    obtain ⟨p0, q1, q2⟩ := hout
    have hf : (z_set x).testBit p0 = false := by
      cases e : (z_set x).testBit p0 with
      | false => rfl
      | true => exact absurd ((z_set_bit x).mp e) q2
    obtain ⟨p1, r1, r2, r3⟩ := z_nr_av hu hn h q1 hf
    have r2' : p1 ∉ x := fun e => by
      rw [(z_set_bit x).mpr e] at r2
      cases r2
    obtain ⟨p, ⟨s1, s2, s3⟩, s4⟩ := z_minx (P := fun p => p < n ∧ p ∉ x ∧ ∀ q, (u p).testBit q = true → q ∈ x) p1 ⟨r1, r2', fun q hq => (z_set_bit x).mp (r3 q hq)⟩
    exact ⟨p :: x, by rw [List.length_cons, h1], ⟨s1, s2, s3, fun r t1 t2 t3 => s4 r ⟨t1, t2, t3⟩⟩, h2⟩
theorem z_lst_false {p : Nat} : ∀ o : List Nat, z_lst bs p o = false → ∃ o1 q o2, o = o1 ++ q :: o2 ∧ p < q ∧ (bs p).testBit q = false ∧ ∀ r, r ∈ o1 → (bs p).testBit r = false
  | [], h => by cases h
  | q :: o, h => by
    rw [z_lst] at h
    cases c : (bs p).testBit q with
    | true => rw [c] at h; simp at h
    | false =>
      rw [c] at h
      by_cases c2 : p < q
      · exact ⟨[], q, o, rfl, c2, c, fun r hr => absurd hr List.not_mem_nil⟩
      · rw [if_neg (by decide), if_neg c2] at h
        obtain ⟨o1, q', o2, h1, h2, h3, h4⟩ := z_lst_false o h
        refine ⟨q :: o1, q', o2, by rw [h1]; rfl, h2, h3, fun r hr => ?_⟩
        rcases List.mem_cons.mp hr with e | e
        · rw [e]; exact c
        · exact h4 r e
theorem z_lst_no {r p : Nat} {o : List Nat} (h1 : (bs r).testBit p = false) (h2 : r < p) : ∀ e : List Nat, (∀ z, z ∈ e → (bs r).testBit z = false) → z_lst bs r (e ++ p :: o) = false
  | [], _ => by
    show z_lst bs r (p :: o) = false
    rw [z_lst, h1, if_neg (by decide), if_pos h2]
  | z :: e, h => by
    show z_lst bs r (z :: (e ++ p :: o)) = false
    rw [z_lst, h z List.mem_cons_self, if_neg (by decide)]
    split
    · rfl
    · exact z_lst_no h1 h2 e (fun y hy => h y (List.mem_cons_of_mem _ hy))
theorem z_grd_suf : ∀ (e o : List Nat), z_grd u n (e ++ o) → z_grd u n o
  | [], _, h => h
  | _ :: e, o, h => z_grd_suf e o h.2
/-- in a greedy order no greater place stands between one and the last beside it -/
theorem z_grd_lst (hub : ∀ p, p < n → ∀ q, (u p).testBit q = true → (bs p).testBit q = true) {p : Nat} {o : List Nat} (h : z_grd u n (p :: o)) : z_lst bs p o = true := by
  cases c : z_lst bs p o with
  | true => rfl
  | false =>
    obtain ⟨o1, q, o2, h1, h2, h3, h4⟩ := z_lst_false o c
    obtain ⟨⟨a1, a2, a3, a4⟩, a5⟩ := h
    rw [h1] at a5
    obtain ⟨⟨b1, b2, b3, b4⟩, b5⟩ := z_grd_suf o1 (q :: o2) a5
    have hp2 : p ∉ o2 := fun e => a2 (by rw [h1]; exact List.mem_append_right _ (List.mem_cons_of_mem _ e))
    have := b4 p a1 hp2 (fun r hr => by
      have m := a3 r hr
      have hb := hub p a1 r hr
      rw [h1] at m
      rcases List.mem_append.mp m with e | e
      · rw [h4 r e] at hb; cases hb
      · rcases List.mem_cons.mp e with e | e
        · rw [e, h3] at hb; cases hb
        · exact e)
    omega
theorem z_top_mem : ∀ (o : List Nat) (r p : Nat), z_top u o → r ∈ o → (u r).testBit p = true → p ∈ o
  | q :: o, r, p, ⟨h1, h2⟩, hr, hp => by
    rcases List.mem_cons.mp hr with e | e
    · rw [e] at hp
      exact List.mem_cons_of_mem _ (h1 p hp)
    · exact List.mem_cons_of_mem _ (z_top_mem o r p h2 e hp)
/-- the parents that a greedy order gives are the graph's -/
theorem z_grd_eq (hn : n ≤ 6) (hu : ∀ p, p < n → u p < 64) (hj : ∀ p, p < n → ∀ q, q < n → (bs p).testBit q = z_jn u p q) (hub : ∀ p, p < n → ∀ q, (u p).testBit q = true → q < n) {p : Nat} {o : List Nat} (h : z_grd u n (p :: o)) : bs p &&& z_set o = u p := by
  have g := z_grd_go _ h
  obtain ⟨⟨a1, a2, a3, a4⟩, a5⟩ := h
  have hs : z_set o < 64 := Nat.lt_of_lt_of_le (z_set_lt o (fun q hq => g.2 q (List.mem_cons_of_mem _ hq))) (z_pow hn)
  apply z_ext (n := 6) (Nat.lt_of_le_of_lt Nat.and_le_right hs) (hu p a1)
  intro q _
  rw [Nat.testBit_and]
  apply Bool.eq_iff_iff.mpr
  rw [Bool.and_eq_true, z_set_bit]
  constructor
  · rintro ⟨h1, h2⟩
    have hq := g.2 q (List.mem_cons_of_mem _ h2)
    rw [hj p a1 q hq, z_jn, Bool.or_eq_true] at h1
    rcases h1 with e | e
    · exact e
    · exact absurd (z_top_mem o q p (z_grd_top o a5) h2 e) a2
  · intro h1
    exact ⟨by rw [hj p a1 q (hub p a1 q h1), z_jn, h1]; rfl, a3 q h1⟩
theorem z_grd_uo (hn : n ≤ 6) (hu : ∀ p, p < n → u p < 64) (hj : ∀ p, p < n → ∀ q, q < n → (bs p).testBit q = z_jn u p q) (hub : ∀ p, p < n → ∀ q, (u p).testBit q = true → q < n) : ∀ o, z_grd u n o → ∀ p, p ∈ o → z_uo bs o p = u p
  | q :: o, h, p, hp => by
    rw [z_uo]
    by_cases c : p = q
    · rw [if_pos c, c]
      exact z_grd_eq hn hu hj hub h
    · rw [if_neg c]
      rcases List.mem_cons.mp hp with e | e
      · exact absurd e c
      · exact z_grd_uo hn hu hj hub o h.2 p e
theorem z_grd_vl (hn : n ≤ 6) (hu : ∀ p, p < n → u p < 64) (hj : ∀ p, p < n → ∀ q, q < n → (bs p).testBit q = z_jn u p q) (hub : ∀ p, p < n → ∀ q, (u p).testBit q = true → q < n) (hm : ∀ p, p < n → z_mta bs (u p) (f p) n 0 = true) : ∀ o, z_grd u n o → z_vl bs f n o
  | [], _ => trivial
  | p :: o, h => by
    refine ⟨h.1.1, ?_, z_grd_vl hn hu hj hub hm o h.2⟩
    unfold z_mly
    have e1 : (z_set o).testBit p = false := by
      cases e : (z_set o).testBit p with
      | false => rfl
      | true => exact absurd ((z_set_bit o).mp e) h.1.2.1
    rw [e1, z_grd_lst (fun p hp q hq => by rw [hj p hp q (hub p hp q hq), z_jn, hq]; rfl) h, z_grd_eq hn hu hj hub h, hm p h.1.1]
    rfl
end
