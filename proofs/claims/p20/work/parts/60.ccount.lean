/-! the class's count and of end well, and what they answer where no like graph is asked for -/
section
variable {w : x_W} {n n' h h' : Nat} {f f' : Nat → Nat} {t t' : Nat → Nat → Nat}
theorem z_sure1 (L : z_lk w n) (hn : n ≤ 6) : ∃ r, fK_howManySure w 11 = some r := by
  have loop : ∀ k q fuel (v : Int32), q + k = n → k < fuel → ∃ r, fK_howManySure_4 w fuel 11 v (nI q) = some r := by
    intro k
    induction k with
    | zero =>
      intro q fuel v hq hf
      obtain ⟨m, rfl⟩ := z_suc hf
      exact ⟨v, by rw [fK_howManySure_4, (z_lk0 L).2.2.2.2.2, Option.bind_some, if_pos (nI_le (show n ≤ q by omega) (by omega))]⟩
    | succ k ih =>
      intro q fuel v hq hf
      obtain ⟨m, rfl⟩ := z_suc hf
      obtain ⟨x, hx⟩ := z_lkr L (r := 15) (by omega) (by omega) (show q < 6 by omega)
      rw [fK_howManySure_4, (z_lk0 L).2.2.2.2.2, Option.bind_some, if_neg (nI_ge (show q < n by omega) (by omega)), (z_lk0 L).2.2.2.2.1, Option.bind_some, hx, Option.bind_some, z_inc]
      exact ih (q + 1) m _ (by omega) (by omega)
  unfold fK_howManySure
  exact loop n 0 x_F 0 (by omega) (by unfold x_F; omega)
theorem z_sure2 (L : z_lk w n) (hn : n ≤ 6) (p : Int32) : ∃ r, fK_sureFrom w 11 p = some r := by
  have loop : ∀ k q fuel (v : Int32), q + k = n → k < fuel → ∃ r, fK_sureFrom_4 w fuel 11 p v (nI q) = some r := by
    intro k
    induction k with
    | zero =>
      intro q fuel v hq hf
      obtain ⟨m, rfl⟩ := z_suc hf
      exact ⟨v, by rw [fK_sureFrom_4, (z_lk0 L).2.2.2.2.2, Option.bind_some, if_pos (nI_le (show n ≤ q by omega) (by omega))]⟩
    | succ k ih =>
      intro q fuel v hq hf
      obtain ⟨m, rfl⟩ := z_suc hf
      obtain ⟨x, hx⟩ := z_lkr L (r := 15) (by omega) (by omega) (show q < 6 by omega)
      rw [fK_sureFrom_4, (z_lk0 L).2.2.2.2.2, Option.bind_some, if_neg (nI_ge (show q < n by omega) (by omega)), (z_lk0 L).2.2.2.2.1, Option.bind_some, hx, Option.bind_some, z_inc]
      split
      · exact ih (q + 1) m _ (by omega) (by omega)
      · exact ih (q + 1) m _ (by omega) (by omega)
  unfold fK_sureFrom
  exact loop n 0 x_F 0 (by omega) (by unfold x_F; omega)
theorem z_kL_kC {w' : x_W} (S : z_sc w) (K : z_kL w w' n) : z_kC w w' := by
  obtain ⟨s1, s2, s3, s4, s5, s6, s7, s8⟩ := S
  obtain ⟨⟨d, l0⟩, l1, l2, l3, l4⟩ := K.1
  refine ⟨⟨?_, ⟨_, _, l0⟩, l1, l2, l3, l4, ?_, ?_⟩, fun j hj => K.2 j (by omega)⟩
  · rw [K.2 9 (by omega), K.2 10 (by omega)]; exact s1
  · rw [K.2 16 (by omega)]; exact s7
  · rw [K.2 17 (by omega)]; exact s8
end
