/-! the orders that the class lays: which, and none twice -/
def z_vl (bs f : Nat → Nat) (n : Nat) : List Nat → Prop
  | [] => True
  | p :: o => p < n ∧ z_mly bs f n o p = true ∧ z_vl bs f n o
section
variable {n : Nat} {f bs : Nat → Nat}
theorem z_lw_mem {rec : List Nat → List (List Nat)} {o x : List Nat} : ∀ m p, x ∈ z_lw bs f n rec o m p ↔ ∃ q, p ≤ q ∧ q < p + m ∧ z_mly bs f n o q = true ∧ x ∈ rec (q :: o)
  | 0, p => by
    rw [z_lw]
    constructor
    · intro h; cases h
    · rintro ⟨q, h1, h2, -⟩; omega
  | m + 1, p => by
    rw [z_lw, List.mem_append, z_lw_mem m (p + 1)]
    constructor
    · rintro (h | ⟨q, h1, h2, h3, h4⟩)
      · by_cases c : z_mly bs f n o p = true
        · rw [if_pos c] at h
          exact ⟨p, by omega, by omega, c, h⟩
        · rw [if_neg c] at h
          cases h
      · exact ⟨q, by omega, by omega, h3, h4⟩
    · rintro ⟨q, h1, h2, h3, h4⟩
      by_cases c : q = p
      · subst c
        exact Or.inl (by rw [if_pos h3]; exact h4)
      · exact Or.inr ⟨q, by omega, by omega, h3, h4⟩
theorem z_lv_sub : ∀ k o x, x ∈ z_lv bs f n k o → ∃ e : List Nat, x = e ++ o ∧ e.length = k
  | 0, o, x, h => by
    rw [z_lv, List.mem_singleton] at h
    exact ⟨[], h, rfl⟩
  | k + 1, o, x, h => by
    rw [z_lv, z_lw_mem] at h
    obtain ⟨q, -, -, -, h⟩ := h
    obtain ⟨e, h1, h2⟩ := z_lv_sub k (q :: o) x h
    exact ⟨e ++ [q], by rw [h1, List.append_assoc]; rfl, by rw [List.length_append, h2]; rfl⟩
theorem z_lv_vl : ∀ k o x, z_vl bs f n o → x ∈ z_lv bs f n k o → z_vl bs f n x
  | 0, o, x, v, h => by
    rw [z_lv, List.mem_singleton] at h
    rw [h]; exact v
  | k + 1, o, x, v, h => by
    rw [z_lv, z_lw_mem] at h
    obtain ⟨q, h1, h2, h3, h⟩ := h
    exact z_lv_vl k (q :: o) x ⟨by omega, h3, v⟩ h
theorem z_vl_suf : ∀ (e o : List Nat), z_vl bs f n (e ++ o) → z_vl bs f n o
  | [], _, h => h
  | _ :: e, o, h => z_vl_suf e o h.2.2
theorem z_lv_in : ∀ k (e o : List Nat), e.length = k → z_vl bs f n (e ++ o) → e ++ o ∈ z_lv bs f n k o
  | 0, e, o, h, v => by
    obtain rfl := List.eq_nil_of_length_eq_zero h
    rw [z_lv, List.mem_singleton]; rfl
  | k + 1, e, o, h, v => by
    rcases List.eq_nil_or_concat e with rfl | ⟨e', q, rfl⟩
    · simp at h
    · rw [List.concat_eq_append, List.append_assoc] at v ⊢
      have v' := z_vl_suf e' ([q] ++ o) v
      rw [z_lv, z_lw_mem]
      refine ⟨q, by omega, by have := v'.1; omega, v'.2.1, ?_⟩
      exact z_lv_in k e' (q :: o) (by simpa using h) v
theorem z_lv_nodup : ∀ k o, (z_lv bs f n k o).Nodup
  | 0, o => by rw [z_lv]; exact List.nodup_cons.mpr ⟨List.not_mem_nil, List.nodup_nil⟩
  | k + 1, o => by
    have go : ∀ m p, (z_lw bs f n (z_lv bs f n k) o m p).Nodup := by
      intro m
      induction m with
      | zero => intro p; exact List.nodup_nil
      | succ m ih =>
        intro p
        rw [z_lw, List.nodup_append]
        refine ⟨?_, ih (p + 1), ?_⟩
        · split
          · exact z_lv_nodup k (p :: o)
          · exact List.nodup_nil
        · intro a ha b hb e
          rw [z_lw_mem] at hb
          obtain ⟨q, h1, h2, h3, h4⟩ := hb
          split at ha
          · obtain ⟨e1, a1, a2⟩ := z_lv_sub k _ _ ha
            obtain ⟨e2, b1, b2⟩ := z_lv_sub k _ _ h4
            rw [← e, a1] at b1
            have := (List.append_inj b1 (by rw [a2, b2])).2
            have : p = q := by injection this
            omega
          · cases ha
    rw [z_lv]
    exact go n 0
theorem z_vl_go : ∀ o, z_vl bs f n o → z_go n o
  | [], _ => ⟨List.nodup_nil, fun p hp => absurd hp List.not_mem_nil⟩
  | p :: o, ⟨h1, h2, h3⟩ => by
    obtain ⟨g1, g2⟩ := z_vl_go o h3
    refine ⟨List.nodup_cons.mpr ⟨fun e => ?_, g1⟩, fun q hq => ?_⟩
    · have := (z_set_bit o).mpr e
      unfold z_mly at h2
      rw [this] at h2
      simp at h2
    · rcases List.mem_cons.mp hq with e | e
      · rw [e]; exact h1
      · exact g2 q e
end
