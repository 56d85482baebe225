/-! the class's search of like graphs ends well -/
def z_lk (w : x_W) (n : Nat) : Prop := (∃ d, w[11]? = some (.inr (4, [.ref 12, .ref 13, .ref 14, .ref 15, .int (nI n), .int d]))) ∧ (∃ C, w[12]? = some (.inl (6, C))) ∧ (∃ C, w[13]? = some (.inl (6, C))) ∧ (∃ C, w[14]? = some (.inl (6, C))) ∧ ∃ C, w[15]? = some (.inl (6, C))
def z_kL (w w' : x_W) (n : Nat) : Prop := z_lk w' n ∧ ∀ j, j < 11 ∨ 15 < j → w'[j]? = w[j]?
section
variable {w : x_W} {n a : Nat} {f : Nat → Nat}
theorem z_kL_t {w w' w'' : x_W} (K : z_kL w w' n) (K' : z_kL w' w'' n) : z_kL w w'' n := ⟨K'.1, fun j hj => by rw [K'.2 j hj, K.2 j hj]⟩
theorem z_lk0 (L : z_lk w n) : x_ob w 11 4 = some () ∧ x_fr w 11 4 0 = some 12 ∧ x_fr w 11 4 1 = some 13 ∧ x_fr w 11 4 2 = some 14 ∧ x_fr w 11 4 3 = some 15 ∧ x_fi w 11 4 4 = some (nI n) := by
  obtain ⟨⟨d, l⟩, -⟩ := L
  exact ⟨z_ob l, by rw [z_fr l]; rfl, by rw [z_fr l]; rfl, by rw [z_fr l]; rfl, by rw [z_fr l]; rfl, by rw [z_fi l]; rfl⟩
theorem z_lkr (L : z_lk w n) {r i : Nat} (h1 : 12 ≤ r) (h2 : r ≤ 15) (hi : i < 6) : ∃ x, x_ai w r (nI i) = some x := by
  obtain ⟨-, ⟨A, l1⟩, ⟨B, l2⟩, ⟨C, l3⟩, ⟨D, l4⟩⟩ := L
  obtain rfl | rfl | rfl | rfl : r = 12 ∨ r = 13 ∨ r = 14 ∨ r = 15 := by omega
  · exact ⟨_, z_ai l1 hi (by omega)⟩
  · exact ⟨_, z_ai l2 hi (by omega)⟩
  · exact ⟨_, z_ai l3 hi (by omega)⟩
  · exact ⟨_, z_ai l4 hi (by omega)⟩
theorem z_lkw (L : z_lk w n) {r i : Nat} (h1 : 12 ≤ r) (h2 : r ≤ 15) (hi : i < 6) (x : Int32) : ∃ w', x_pa w r (nI i) x = some w' ∧ z_kL w w' n := by
  obtain ⟨⟨d, l0⟩, ⟨A, l1⟩, ⟨B, l2⟩, ⟨C, l3⟩, ⟨D, l4⟩⟩ := L
  have fin : ∀ F, w[r]? = some (.inl (6, F)) → ∃ w', x_pa w r (nI i) x = some w' ∧ z_kL w w' n := by
    intro F hF
    have e : ∀ j, j ≠ r → (w.set r (.inl (6, upd F i x)))[j]? = w[j]? := fun j hj => z_else (Ne.symm hj)
    have s := z_self (c' := .inl (6, upd F i x)) hF
    have at' : ∀ (q : Nat) (G : Nat → Int32), w[q]? = some (.inl (6, G)) → ∃ G' : Nat → Int32, (w.set r (.inl (6, upd F i x)))[q]? = some (.inl (6, G')) := by
      intro q G hG
      by_cases c : q = r
      · subst c; exact ⟨_, s⟩
      · exact ⟨G, by rw [e q c]; exact hG⟩
    exact ⟨_, z_pa hF hi (by omega), ⟨⟨d, by rw [e 11 (by omega)]; exact l0⟩, at' 12 A l1, at' 13 B l2, at' 14 C l3, at' 15 D l4⟩, fun j hj => e j (by omega)⟩
  obtain rfl | rfl | rfl | rfl : r = 12 ∨ r = 13 ∨ r = 14 ∨ r = 15 := by omega
  · exact fin A l1
  · exact fin B l2
  · exact fin C l3
  · exact fin D l4
theorem z_least (L : z_lk w n) {p : Nat} (hp : p < 6) : ∀ k fuel, k ≤ 6 → k < fuel → ∃ r, fK_isLeastOrder_4 w fuel 11 (nI p) (nI k - 1) = some r := by
  intro k
  induction k with
  | zero =>
    intro fuel hk hf
    obtain ⟨m, rfl⟩ := z_suc hf
    exact ⟨1, by rw [fK_isLeastOrder_4, if_pos (by decide)]⟩
  | succ k ih =>
    intro fuel hk hf
    obtain ⟨m, rfl⟩ := z_suc hf
    have e1 : nI (k + 1) - 1 = nI k := by rw [show (1 : Int32) = nI 1 from rfl, pk_sub (by omega)]; rfl
    have e2 : nI k + (-1) = nI k - 1 := (Int32.sub_eq_add_neg (nI k) 1).symm
    obtain ⟨x, hx⟩ := z_lkr L (r := 12) (by omega) (by omega) hp
    obtain ⟨y, hy⟩ := z_lkr L (r := 13) (by omega) (by omega) (show k < 6 by omega)
    obtain ⟨r, hr⟩ := ih m (by omega) (by omega)
    rw [fK_isLeastOrder_4, e1, e2, if_neg (nI_pos (by omega)), (z_lk0 L).2.1, Option.bind_some, hx, Option.bind_some, (z_lk0 L).2.2.1, Option.bind_some, hy, Option.bind_some, hr]
    split
    · split
      · exact ⟨_, rfl⟩
      · exact ⟨_, rfl⟩
    · exact ⟨_, rfl⟩
theorem z_unj (L : z_lk w n) (v : Int32) {p : Nat} (hp : p < 6) : ∃ r, fK_unjoined w 11 v (nI p) = some r := by
  obtain ⟨x, hx⟩ := z_lkr L (r := 12) (by omega) (by omega) hp
  unfold fK_unjoined
  split
  · exact ⟨_, rfl⟩
  · rw [(z_lk0 L).2.1, Option.bind_some, hx, Option.bind_some]
    exact ⟨_, rfl⟩
theorem z_meetA (L : z_lk w n) (hn : n ≤ 6) (v : Int32) {p : Nat} (hp : p < 6) : ∃ r, fK_meetsAlike w 11 (nI p) v = some r := by
  have loop : ∀ k q fuel, q + k = n → k < fuel → ∃ r, fK_meetsAlike_2 w fuel 11 (nI p) v (nI q) = some r := by
    intro k
    induction k with
    | zero =>
      intro q fuel hq hf
      obtain ⟨m, rfl⟩ := z_suc hf
      exact ⟨1, by rw [fK_meetsAlike_2, (z_lk0 L).2.2.2.2.2, Option.bind_some, if_pos (nI_le (show n ≤ q by omega) (by omega))]⟩
    | succ k ih =>
      intro q fuel hq hf
      obtain ⟨m, rfl⟩ := z_suc hf
      obtain ⟨x, hx⟩ := z_lkr L (r := 14) (by omega) (by omega) hp
      obtain ⟨y, hy⟩ := z_unj L x (show q < 6 by omega)
      obtain ⟨z, hz⟩ := z_unj L v (show q < 6 by omega)
      obtain ⟨r, hr⟩ := ih (q + 1) m (by omega) (by omega)
      rw [fK_meetsAlike_2, (z_lk0 L).2.2.2.2.2, Option.bind_some, if_neg (nI_ge (show q < n by omega) (by omega)), (z_lk0 L).2.2.2.1, Option.bind_some, hx, Option.bind_some, hy, Option.bind_some, hz, Option.bind_some, z_inc, hr]
      split
      · exact ⟨_, rfl⟩
      · exact ⟨_, rfl⟩
  unfold fK_meetsAlike
  exact loop n 0 x_F (by omega) (by unfold x_F; omega)
theorem z_takeUp (L : z_lk w n) (hn : n ≤ 6) : ∃ w', fK_takeUp w 11 = some w' ∧ z_kL w w' n := by
  have loop : ∀ k q fuel (w : x_W), q + k = n → k < fuel → z_lk w n → ∃ w', fK_takeUp_12 fuel w 11 (nI q) = some w' ∧ z_kL w w' n := by
    intro k
    induction k with
    | zero =>
      intro q fuel w hq hf L
      obtain ⟨m, rfl⟩ := z_suc hf
      exact ⟨w, by rw [fK_takeUp_12, (z_lk0 L).2.2.2.2.2, Option.bind_some, if_pos (nI_le (show n ≤ q by omega) (by omega))], L, fun _ _ => rfl⟩
    | succ k ih =>
      intro q fuel w hq hf L
      obtain ⟨m, rfl⟩ := z_suc hf
      obtain ⟨x, hx⟩ := z_lkr L (r := 15) (by omega) (by omega) (show q < 6 by omega)
      obtain ⟨y, hy⟩ := z_lkr L (r := 14) (by omega) (by omega) (show q < 6 by omega)
      obtain ⟨w1, a1, a2⟩ := z_lkw L (r := 15) (by omega) (by omega) (show q < 6 by omega) (x &&& y)
      obtain ⟨w', b1, b2⟩ := ih (q + 1) m w1 (by omega) (by omega) a2.1
      refine ⟨w', ?_, z_kL_t a2 b2⟩
      rw [fK_takeUp_12, (z_lk0 L).2.2.2.2.2, Option.bind_some, if_neg (nI_ge (show q < n by omega) (by omega)), (z_lk0 L).2.2.2.2.1, Option.bind_some, hx, Option.bind_some, (z_lk0 L).2.2.2.1, Option.bind_some, hy, Option.bind_some, a1, Option.bind_some, z_inc]
      exact b1
  obtain ⟨⟨d, l0⟩, l1, l2, l3, l4⟩ := L
  have e : ∀ j, j ≠ 11 → (w.set 11 (.inr (4, [.ref 12, .ref 13, .ref 14, .ref 15, .int (nI n), .int (d + 1)])))[j]? = w[j]? := fun j hj => z_else (Ne.symm hj)
  have K : z_kL w (w.set 11 (.inr (4, [.ref 12, .ref 13, .ref 14, .ref 15, .int (nI n), .int (d + 1)]))) n := ⟨⟨⟨_, z_self l0⟩, by rw [e 12 (by omega)]; exact l1, by rw [e 13 (by omega)]; exact l2, by rw [e 14 (by omega)]; exact l3, by rw [e 15 (by omega)]; exact l4⟩, fun j hj => e j (by omega)⟩
  obtain ⟨w', b1, b2⟩ := loop n 0 x_F _ (by omega) (by unfold x_F; omega) K.1
  refine ⟨w', ?_, z_kL_t K b2⟩
  unfold fK_takeUp
  rw [z_fi l0]
  show (some d).bind _ = _
  rw [Option.bind_some, z_pf l0 (by simp), Option.bind_some]
  exact b1
end
