/-! what an order of the class gives is a graph like this one -/
section
variable {n : Nat} {u v f bs : Nat → Nat}
theorem z_mta_iff {s r : Nat} : ∀ k a, z_mta bs s r k a = true ↔ ∀ b, a ≤ b → b < a + k → z_unjo bs s b = z_unjo bs r b
  | 0, a => by
    rw [z_mta]
    exact ⟨fun _ b h1 h2 => by omega, fun _ => rfl⟩
  | k + 1, a => by
    rw [z_mta]
    by_cases c : z_unjo bs s a = z_unjo bs r a
    · rw [if_pos c, z_mta_iff k (a + 1)]
      constructor
      · intro h b h1 h2
        by_cases e : b = a
        · rw [e]; exact c
        · exact h b (by omega) (by omega)
      · intro h b h1 h2
        exact h b (by omega) (by omega)
    · rw [if_neg c]
      exact ⟨fun h => (by cases h), fun h => absurd (h a (by omega) (by omega)) c⟩
theorem z_unjo_bit {s a b : Nat} (hb : bs a < 64) (ha : a < 6) (hb6 : b < 6) : (z_unjo bs s a).testBit b = (s.testBit a && (s.testBit b && (!(bs a).testBit b && !decide (a = b)))) := by
  have h2 : 2 ^ a < 64 := Nat.lt_of_lt_of_le (Nat.pow_lt_pow_right (by omega) ha) (by omega)
  unfold z_unjo
  cases c : s.testBit a with
  | false => rw [if_neg (by decide)]; simp
  | true => rw [if_pos rfl, Nat.testBit_and, Nat.testBit_and, z_cpl _ hb b hb6, z_cpl _ h2 b hb6, Nat.testBit_two_pow, Bool.true_and, Bool.and_assoc]
theorem z_mta_mt (hn : n ≤ 6) (hbs : ∀ p, p < n → bs p < 64) (hj : ∀ a, a < n → ∀ b, b < n → (bs a).testBit b = z_jn u a b) (hjv : ∀ a, a < n → ∀ b, b < n → (bs a).testBit b = z_jn v a b) (hu : ∀ p, p < n → u p < 2 ^ n) (hv : ∀ p, p < n → v p < 2 ^ n) {c : Nat} (hc : c < n) : z_mta bs (u c) (v c) n 0 = true ↔ ∀ a, a < n → ∀ b, b < n → z_mt u a b c = z_mt v a b c := by
  have p2 : 2 ^ n ≤ 64 := z_pow hn
  have eu : ∀ a, a < n → ∀ b, b < n → (z_unjo bs (u c) a).testBit b = z_mt u a b c := by
    intro a ha b hb
    rw [z_unjo_bit (hbs a ha) (by omega) (by omega), z_mt, hj a ha b hb]
    cases (u c).testBit a <;> cases (u c).testBit b <;> cases z_jn u a b <;> cases decide (a = b) <;> rfl
  have ev : ∀ a, a < n → ∀ b, b < n → (z_unjo bs (v c) a).testBit b = z_mt v a b c := by
    intro a ha b hb
    rw [z_unjo_bit (hbs a ha) (by omega) (by omega), z_mt, hjv a ha b hb]
    cases (v c).testBit a <;> cases (v c).testBit b <;> cases z_jn v a b <;> cases decide (a = b) <;> rfl
  rw [z_mta_iff]
  constructor
  · intro h a ha b hb
    rw [← eu a ha b hb, ← ev a ha b hb, h a (by omega) (by omega)]
  · intro h a _ ha
    have ha : a < n := by omega
    have l1 : z_unjo bs (u c) a < 2 ^ n := by
      unfold z_unjo
      split
      · exact Nat.lt_of_le_of_lt Nat.and_le_left (Nat.lt_of_le_of_lt Nat.and_le_left (hu c hc))
      · exact Nat.two_pow_pos n
    have l2 : z_unjo bs (v c) a < 2 ^ n := by
      unfold z_unjo
      split
      · exact Nat.lt_of_le_of_lt Nat.and_le_left (Nat.lt_of_le_of_lt Nat.and_le_left (hv c hc))
      · exact Nat.two_pow_pos n
    apply z_ext l1 l2
    intro b hb
    rw [eu a ha b hb, ev a ha b hb, h a ha b hb]
theorem z_uo_out {p : Nat} : ∀ o : List Nat, p ∉ o → z_uo bs o p = 0
  | [], _ => rfl
  | q :: o, h => by
    rw [z_uo, if_neg (fun e => h (by rw [e]; exact List.mem_cons_self))]
    exact z_uo_out o (fun e => h (List.mem_cons_of_mem _ e))
theorem z_uo_sub {p q : Nat} : ∀ o : List Nat, (z_uo bs o p).testBit q = true → (bs p).testBit q = true ∧ q ∈ o
  | [], h => by simp [z_uo] at h
  | r :: o, h => by
    rw [z_uo] at h
    by_cases c : p = r
    · rw [if_pos c, Nat.testBit_and, Bool.and_eq_true] at h
      rw [c]
      exact ⟨h.1, List.mem_cons_of_mem _ ((z_set_bit o).mp h.2)⟩
    · rw [if_neg c] at h
      obtain ⟨h1, h2⟩ := z_uo_sub o h
      exact ⟨h1, List.mem_cons_of_mem _ h2⟩
theorem z_uo_at {p : Nat} {o : List Nat} : ∀ e : List Nat, p ∉ e → z_uo bs (e ++ p :: o) p = bs p &&& z_set o
  | [], _ => by
    show z_uo bs (p :: o) p = _
    rw [z_uo, if_pos rfl]
  | q :: e, h => by
    show z_uo bs (q :: (e ++ p :: o)) p = _
    rw [z_uo, if_neg (fun e' => h (by rw [e']; exact List.mem_cons_self))]
    exact z_uo_at e (fun e' => h (List.mem_cons_of_mem _ e'))
theorem z_uo_jn {p q : Nat} (hpq : p ≠ q) (h1 : (bs p).testBit q = true) (h2 : (bs q).testBit p = true) : ∀ o : List Nat, p ∈ o → q ∈ o → (z_uo bs o p).testBit q = true ∨ (z_uo bs o q).testBit p = true
  | r :: o, hp, hq => by
    rw [z_uo, z_uo]
    by_cases c : p = r
    · have hq' : q ∈ o := by
        rcases List.mem_cons.mp hq with e | e
        · exact absurd (c.trans e.symm) hpq
        · exact e
      left
      rw [if_pos c, ← c, Nat.testBit_and, h1, (z_set_bit o).mpr hq']
      rfl
    · by_cases c2 : q = r
      · have hp' : p ∈ o := by
          rcases List.mem_cons.mp hp with e | e
          · exact absurd e c
          · exact e
        right
        rw [if_pos c2, ← c2, Nat.testBit_and, h2, (z_set_bit o).mpr hp']
        rfl
      · rw [if_neg c, if_neg c2]
        have hp' : p ∈ o := by
          rcases List.mem_cons.mp hp with e | e
          · exact absurd e c
          · exact e
        have hq' : q ∈ o := by
          rcases List.mem_cons.mp hq with e | e
          · exact absurd e c2
          · exact e
        exact z_uo_jn hpq h1 h2 o hp' hq'
theorem z_nd_mid {e o : List Nat} {p : Nat} (h : (e ++ p :: o).Nodup) : p ∉ e ∧ p ∉ o ∧ ∀ z, z ∈ e → z ∉ o := by
  rw [List.nodup_append] at h
  obtain ⟨h1, h2, h3⟩ := h
  exact ⟨fun q => h3 p q p List.mem_cons_self rfl, (List.nodup_cons.mp h2).1, fun z hz hz' => h3 z hz z (List.mem_cons_of_mem _ hz') rfl⟩
theorem z_uo_top : ∀ (o e : List Nat), (e ++ o).Nodup → z_top (z_uo bs (e ++ o)) o
  | [], _, _ => trivial
  | p :: o, e, h => by
    obtain ⟨h1, h2, h3⟩ := z_nd_mid h
    refine ⟨fun q hq => ?_, ?_⟩
    · rw [z_uo_at e h1, Nat.testBit_and, Bool.and_eq_true] at hq
      exact (z_set_bit o).mp hq.2
    · have a : e ++ p :: o = (e ++ [p]) ++ o := by rw [List.append_assoc]; rfl
      rw [a] at h ⊢
      exact z_uo_top o (e ++ [p]) h
theorem z_vl_grd {x : List Nat} (hl : x.length = n) (hv : z_vl bs f n x) : ∀ (o e : List Nat), x = e ++ o → z_grd (z_uo bs x) n o
  | [], _, _ => trivial
  | p :: o, e, h => by
    have g := z_vl_go x hv
    have nd := g.1
    rw [h] at nd
    obtain ⟨h1, h2, h3⟩ := z_nd_mid nd
    have a : x = (e ++ [p]) ++ o := by rw [List.append_assoc]; exact h
    refine ⟨⟨g.2 p (by rw [h]; exact List.mem_append_right _ List.mem_cons_self), h2, fun q hq => ?_, fun r r1 r2 r3 => ?_⟩, z_vl_grd hl hv o (e ++ [p]) a⟩
    · rw [h, z_uo_at e h1, Nat.testBit_and, Bool.and_eq_true] at hq
      exact (z_set_bit o).mp hq.2
    · apply Classical.byContradiction
      intro c
      have hr : r ∈ x := z_allin g hl r r1
      have hre : r ∈ e := by
        rw [h] at hr
        rcases List.mem_append.mp hr with q | q
        · exact q
        · rcases List.mem_cons.mp q with q | q
          · omega
          · exact absurd q r2
      obtain ⟨e1, e2, rfl⟩ := List.append_of_mem hre
      have hx : x = e1 ++ r :: (e2 ++ p :: o) := by rw [h, List.append_assoc]; rfl
      have nd2 := g.1
      rw [hx] at nd2
      obtain ⟨k1, k2, k3⟩ := z_nd_mid nd2
      have eu : z_uo bs x r = bs r &&& z_set (e2 ++ p :: o) := by rw [hx]; exact z_uo_at e1 k1
      have no : ∀ z, z ∈ e2 ++ p :: o → z ∉ o → (bs r).testBit z = false := by
        intro z hz hzo
        cases q : (bs r).testBit z with
        | false => rfl
        | true =>
          have := r3 z (by rw [eu, Nat.testBit_and, q, (z_set_bit _).mpr hz]; rfl)
          exact absurd this hzo
      have v2 : z_vl bs f n (r :: (e2 ++ p :: o)) := z_vl_suf e1 _ (by rw [← hx]; exact hv)
      have m := v2.2.1
      unfold z_mly at m
      rw [z_lst_no (no p (List.mem_append_right _ List.mem_cons_self) h2) (by omega) e2 (fun z hz => no z (List.mem_append_left _ hz) (h3 z (List.mem_append_right _ (List.mem_cons_of_mem _ hz))))] at m
      simp at m
/-- the graph of a valid order has no ring, the same arrows but for their heads, the same meetings -/
theorem z_vl_good {x : List Nat} (hn : n ≤ 6) (hbs : ∀ p, p < n → bs p < 64) (hf : ∀ p, p < n → f p < 2 ^ n) (hj : ∀ a, a < n → ∀ b, b < n → (bs a).testBit b = z_jn f a b) (h0 : ∀ a, a < n → (bs a).testBit a = false) (hl : x.length = n) (hv : z_vl bs f n x) : z_nr n (z_uo bs x) = true ∧ z_shp n (z_uo bs x) f = true ∧ ∀ p, p < n → z_uo bs x p < 2 ^ n := by
  have g := z_vl_go x hv
  have u64 : ∀ p, p < n → z_uo bs x p < 64 := fun p hp => z_uo_lt hbs x p g.2
  have un : ∀ p, p < n → z_uo bs x p < 2 ^ n := by
    intro p hp
    apply Nat.lt_pow_two_of_testBit
    intro q hq
    cases e : (z_uo bs x p).testBit q with
    | false => rfl
    | true =>
      have := g.2 q (z_uo_sub x e).2
      omega
  have jn : ∀ a, a < n → ∀ b, b < n → (bs a).testBit b = z_jn (z_uo bs x) a b := by
    intro a ha b hb
    have sym : (bs b).testBit a = (bs a).testBit b := by
      rw [hj a ha b hb, hj b hb a ha, z_jn, z_jn, Bool.or_comm]
    apply Bool.eq_iff_iff.mpr
    rw [z_jn, Bool.or_eq_true]
    constructor
    · intro h
      have ne : a ≠ b := by
        intro e
        subst e
        rw [h0 a ha] at h
        cases h
      exact z_uo_jn ne h (by rw [sym]; exact h) x (z_allin g hl a ha) (z_allin g hl b hb)
    · rintro (h | h)
      · exact (z_uo_sub x h).1
      · rw [← sym]; exact (z_uo_sub x h).1
  refine ⟨z_top_nr u64 hn g hl (z_uo_top x [] g.1), ?_, un⟩
  rw [z_shp_iff]
  intro a ha b hb
  refine ⟨by rw [← jn a ha b hb, hj a ha b hb], fun c hc => ?_⟩
  obtain ⟨e1, e2, he⟩ := List.append_of_mem (z_allin g hl c hc)
  have nd := g.1
  rw [he] at nd
  obtain ⟨k1, k2, k3⟩ := z_nd_mid nd
  have v2 : z_vl bs f n (c :: e2) := z_vl_suf e1 _ (by rw [← he]; exact hv)
  have m := v2.2.1
  unfold z_mly at m
  have eu : z_uo bs x c = bs c &&& z_set e2 := by rw [he]; exact z_uo_at e1 k1
  rw [← eu, Bool.and_eq_true, Bool.and_eq_true] at m
  exact (z_mta_mt hn hbs jn hj un hf hc).mp m.2.2 a ha b hb
/-- each graph like this one is that of a valid order -/
theorem z_good_vl (hn : n ≤ 6) (hbs : ∀ p, p < n → bs p < 64) (hf : ∀ p, p < n → f p < 2 ^ n) (hj : ∀ a, a < n → ∀ b, b < n → (bs a).testBit b = z_jn f a b) (hu : ∀ p, p < n → u p < 2 ^ n) (h1 : z_nr n u = true) (h2 : z_shp n u f = true) : ∃ x, x.length = n ∧ z_vl bs f n x ∧ ∀ p, p < n → z_uo bs x p = u p := by
  have p2 : 2 ^ n ≤ 64 := z_pow hn
  have u64 : ∀ p, p < n → u p < 64 := fun p hp => Nat.lt_of_lt_of_le (hu p hp) p2
  rw [z_shp_iff] at h2
  have jn : ∀ a, a < n → ∀ b, b < n → (bs a).testBit b = z_jn u a b := fun a ha b hb => by rw [hj a ha b hb, (h2 a ha b hb).1]
  have ub : ∀ p, p < n → ∀ q, (u p).testBit q = true → q < n := by
    intro p hp q hq
    apply Classical.byContradiction
    intro c
    rw [z_hi (hu p hp) (by omega)] at hq
    cases hq
  obtain ⟨x, x1, x2⟩ := z_grd_ex u64 hn h1 n (Nat.le_refl _)
  have g := z_grd_go x x2
  refine ⟨x, x1, z_grd_vl hn u64 jn ub (fun c hc => (z_mta_mt hn hbs jn hj hu hf hc).mpr (fun a ha b hb => (h2 a ha b hb).2 c hc)) x x2, fun p hp => z_grd_uo hn u64 jn ub x x2 p (z_allin g x1 p hp)⟩
/-- and of no other -/
theorem z_vl_one {x y : List Nat} (hx : x.length = n) (hy : y.length = n) (vx : z_vl bs f n x) (vy : z_vl bs f n y) (h : ∀ p, p < n → z_uo bs x p = z_uo bs y p) : x = y :=
  z_grd_one h x y (by rw [hx, hy]) (z_vl_grd hx vx x [] rfl) (z_vl_grd hy vy y [] rfl)
end
