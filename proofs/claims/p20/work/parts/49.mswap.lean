/-! the reference's swap and keep -/
theorem z_sw102 {cI pr lm : Int32} {Q : Nat → Int32} {N : Nat → Int32} : ∀ (k v fuel : Nat) (w : x_W) (V : Nat → Int32), v + k = 384 → k < fuel → w[18]? = some (z_c18 cI pr lm) → w[19]? = some (.inl (2, N)) → w[21]? = some (.inl (768, V)) → (∀ i, V i = if i < v then Q (384 + i) else if 384 ≤ i ∧ i < 384 + v then Q (i - 384) else Q i) → ∃ w' Q', fM_swap_102 fuel w 18 (nI v) = some (N 0, w') ∧ w'[21]? = some (.inl (768, Q')) ∧ (∀ i, i < 384 → Q' i = Q (384 + i) ∧ Q' (384 + i) = Q i) ∧ ∀ j, j ≠ 21 → w'[j]? = w[j]? := by
  intro k
  induction k with
  | zero =>
    intro v fuel w V hv hk h18 h19 h21 hV
    obtain ⟨m, rfl⟩ := z_suc hk
    have z0 : x_ai w 19 0 = some (N 0) := z_ai (j := 0) h19 (by omega) (by omega)
    rw [fM_swap_102, if_pos (show (384 : Int32) ≤ nI v from nI_le (a := 384) (by omega) (by omega)), (z_f18 h18).2.1, Option.bind_some, z0, Option.bind_some]
    refine ⟨w, V, rfl, h21, fun i hi => ⟨?_, ?_⟩, fun _ _ => rfl⟩
    · rw [hV, if_pos (by omega)]
    · rw [hV, if_neg (by omega), if_pos (by omega), show 384 + i - 384 = i by omega]
  | succ k ih =>
    intro v fuel w V hv hk h18 h19 h21 hV
    obtain ⟨m, rfl⟩ := z_suc hk
    have a18 : (w.set 21 (.inl (768, upd V v (V (384 + v)))))[18]? = some (z_c18 cI pr lm) := by rw [z_else (by omega)]; exact h18
    have a21 := z_self (c' := .inl (768, upd V v (V (384 + v)))) h21
    rw [fM_swap_102, if_neg (show ¬ (384 : Int32) ≤ nI v from nI_ge (b := 384) (by omega) (by omega)), (z_f18 h18).2.2.2.1, Option.bind_some, z_ai h21 (by omega) (by omega), Option.bind_some, show (384 : Int32) = nI 384 from rfl, nI_add, z_ai h21 (by omega) (by omega), Option.bind_some, z_pa h21 (by omega) (by omega), Option.bind_some, (z_f18 a18).2.2.2.1, Option.bind_some, z_pa a21 (by omega) (by omega), Option.bind_some, z_inc, List.set_set]
    have e : ∀ j, j ≠ 21 → (w.set 21 (.inl (768, upd (upd V v (V (384 + v))) (384 + v) (V v))))[j]? = w[j]? := fun j hj => z_else (Ne.symm hj)
    obtain ⟨w', Q', r1, r2, r3, r4⟩ := ih (v + 1) m (w.set 21 (.inl (768, upd (upd V v (V (384 + v))) (384 + v) (V v)))) (upd (upd V v (V (384 + v))) (384 + v) (V v)) (by omega) (by omega) (by rw [e 18 (by omega)]; exact h18) (by rw [e 19 (by omega)]; exact h19) (z_self h21) (fun i => by
      by_cases c : i = 384 + v
      · rw [c, z_upd_s, hV, if_neg (show ¬ v < v by omega), if_neg (by omega), if_neg (by omega), if_pos (by omega), show 384 + v - 384 = v by omega]
      · rw [z_upd_n c]
        by_cases d : i = v
        · rw [d, z_upd_s, hV, if_neg (show ¬ 384 + v < v by omega), if_neg (by omega), if_pos (by omega)]
        · rw [z_upd_n d, hV]
          by_cases q1 : i < v
          · rw [if_pos q1, if_pos (by omega)]
          · rw [if_neg q1, if_neg (show ¬ i < v + 1 by omega)]
            by_cases q2 : 384 ≤ i ∧ i < 384 + v
            · rw [if_pos q2, if_pos (by omega)]
            · rw [if_neg q2, if_neg (by omega)])
    exact ⟨w', Q', r1, r2, r3, fun j hj => by rw [r4 j hj, e j hj]⟩
theorem z_sw54 {cI pr lm : Int32} {P Q : Nat → Int32} {N : Nat → Int32} : ∀ (k v fuel : Nat) (w : x_W) (V : Nat → Int32), v + k = 6 → k < fuel → w[18]? = some (z_c18 cI pr lm) → w[19]? = some (.inl (2, N)) → w[21]? = some (.inl (768, Q)) → w[20]? = some (.inl (12, V)) → (∀ i, V i = if i < v then P (6 + i) else if 6 ≤ i ∧ i < 6 + v then P (i - 6) else P i) → ∃ w' P' Q', fM_swap_54 fuel w 18 (nI v) = some (N 0, w') ∧ w'[20]? = some (.inl (12, P')) ∧ (∀ i, i < 6 → P' i = P (6 + i) ∧ P' (6 + i) = P i) ∧ w'[21]? = some (.inl (768, Q')) ∧ (∀ i, i < 384 → Q' i = Q (384 + i) ∧ Q' (384 + i) = Q i) ∧ ∀ j, j ≠ 20 → j ≠ 21 → w'[j]? = w[j]? := by
  intro k
  induction k with
  | zero =>
    intro v fuel w V hv hk h18 h19 h21 h20 hV
    obtain ⟨m, rfl⟩ := z_suc hk
    rw [fM_swap_54, if_pos (show (6 : Int32) ≤ nI v from nI_le (a := 6) (by omega) (by omega))]
    obtain ⟨w', Q', r1, r2, r3, r4⟩ := z_sw102 384 0 x_F w Q (by omega) (by unfold x_F; omega) h18 h19 h21 (fun i => by rw [if_neg (by omega), if_neg (by omega)])
    refine ⟨w', V, Q', r1, by rw [r4 20 (by omega)]; exact h20, fun i hi => ⟨?_, ?_⟩, r2, r3, fun j _ hj => r4 j hj⟩
    · rw [hV, if_pos (by omega)]
    · rw [hV, if_neg (by omega), if_pos (by omega), show 6 + i - 6 = i by omega]
  | succ k ih =>
    intro v fuel w V hv hk h18 h19 h21 h20 hV
    obtain ⟨m, rfl⟩ := z_suc hk
    have a18 : (w.set 20 (.inl (12, upd V v (V (6 + v)))))[18]? = some (z_c18 cI pr lm) := by rw [z_else (by omega)]; exact h18
    have a20 := z_self (c' := .inl (12, upd V v (V (6 + v)))) h20
    rw [fM_swap_54, if_neg (show ¬ (6 : Int32) ≤ nI v from nI_ge (b := 6) (by omega) (by omega)), (z_f18 h18).2.2.1, Option.bind_some, z_ai h20 (by omega) (by omega), Option.bind_some, show (6 : Int32) = nI 6 from rfl, nI_add, z_ai h20 (by omega) (by omega), Option.bind_some, z_pa h20 (by omega) (by omega), Option.bind_some, (z_f18 a18).2.2.1, Option.bind_some, z_pa a20 (by omega) (by omega), Option.bind_some, z_inc, List.set_set]
    have e : ∀ j, j ≠ 20 → (w.set 20 (.inl (12, upd (upd V v (V (6 + v))) (6 + v) (V v))))[j]? = w[j]? := fun j hj => z_else (Ne.symm hj)
    obtain ⟨w', P', Q', r1, r2, r3, r4, r5, r6⟩ := ih (v + 1) m (w.set 20 (.inl (12, upd (upd V v (V (6 + v))) (6 + v) (V v)))) (upd (upd V v (V (6 + v))) (6 + v) (V v)) (by omega) (by omega) (by rw [e 18 (by omega)]; exact h18) (by rw [e 19 (by omega)]; exact h19) (by rw [e 21 (by omega)]; exact h21) (z_self h20) (fun i => by
      by_cases c : i = 6 + v
      · rw [c, z_upd_s, hV, if_neg (show ¬ v < v by omega), if_neg (by omega), if_neg (by omega), if_pos (by omega), show 6 + v - 6 = v by omega]
      · rw [z_upd_n c]
        by_cases d : i = v
        · rw [d, z_upd_s, hV, if_neg (show ¬ 6 + v < v by omega), if_neg (by omega), if_pos (by omega)]
        · rw [z_upd_n d, hV]
          by_cases q1 : i < v
          · rw [if_pos q1, if_pos (by omega)]
          · rw [if_neg q1, if_neg (show ¬ i < v + 1 by omega)]
            by_cases q2 : 6 ≤ i ∧ i < 6 + v
            · rw [if_pos q2, if_pos (by omega)]
            · rw [if_neg q2, if_neg (by omega)])
    exact ⟨w', P', Q', r1, r2, r3, r4, r5, fun j h0 hj => by rw [r6 j h0 hj, e j h0]⟩
theorem z_kp55 {cI pr lm : Int32} {Q : Nat → Int32} {N : Nat → Int32} : ∀ (k v fuel : Nat) (w : x_W) (V : Nat → Int32), v + k = 384 → k < fuel → w[18]? = some (z_c18 cI pr lm) → w[19]? = some (.inl (2, N)) → w[21]? = some (.inl (768, V)) → (∀ i, V i = if 384 ≤ i ∧ i < 384 + v then Q (i - 384) else Q i) → ∃ w' Q', fM_keep_55 fuel w 18 (nI v) = some (N 1, w') ∧ w'[21]? = some (.inl (768, Q')) ∧ (∀ i, i < 384 → Q' i = Q i ∧ Q' (384 + i) = Q i) ∧ ∀ j, j ≠ 21 → w'[j]? = w[j]? := by
  intro k
  induction k with
  | zero =>
    intro v fuel w V hv hk h18 h19 h21 hV
    obtain ⟨m, rfl⟩ := z_suc hk
    have z0 : x_ai w 19 1 = some (N 1) := z_ai (j := 1) h19 (by omega) (by omega)
    rw [fM_keep_55, if_pos (show (384 : Int32) ≤ nI v from nI_le (a := 384) (by omega) (by omega)), (z_f18 h18).2.1, Option.bind_some, z0, Option.bind_some]
    refine ⟨w, V, rfl, h21, fun i hi => ⟨?_, ?_⟩, fun _ _ => rfl⟩
    · rw [hV, if_neg (by omega)]
    · rw [hV, if_pos (by omega), show 384 + i - 384 = i by omega]
  | succ k ih =>
    intro v fuel w V hv hk h18 h19 h21 hV
    obtain ⟨m, rfl⟩ := z_suc hk
    rw [fM_keep_55, if_neg (show ¬ (384 : Int32) ≤ nI v from nI_ge (b := 384) (by omega) (by omega)), (z_f18 h18).2.2.2.1, Option.bind_some, z_ai h21 (by omega) (by omega), Option.bind_some, show (384 : Int32) = nI 384 from rfl, nI_add, z_pa h21 (by omega) (by omega), Option.bind_some, z_inc]
    have e : ∀ j, j ≠ 21 → (w.set 21 (.inl (768, upd V (384 + v) (V v))))[j]? = w[j]? := fun j hj => z_else (Ne.symm hj)
    obtain ⟨w', Q', r1, r2, r3, r4⟩ := ih (v + 1) m (w.set 21 (.inl (768, upd V (384 + v) (V v)))) (upd V (384 + v) (V v)) (by omega) (by omega) (by rw [e 18 (by omega)]; exact h18) (by rw [e 19 (by omega)]; exact h19) (z_self h21) (fun i => by
      by_cases c : i = 384 + v
      · rw [c, z_upd_s, hV, if_neg (by omega), if_pos (by omega), show 384 + v - 384 = v by omega]
      · rw [z_upd_n c, hV]
        by_cases q2 : 384 ≤ i ∧ i < 384 + v
        · rw [if_pos q2, if_pos (by omega)]
        · rw [if_neg q2, if_neg (by omega)])
    exact ⟨w', Q', r1, r2, r3, fun j hj => by rw [r4 j hj, e j hj]⟩
theorem z_kp26 {cI pr lm : Int32} {P Q : Nat → Int32} {N : Nat → Int32} : ∀ (k v fuel : Nat) (w : x_W) (V : Nat → Int32), v + k = 6 → k < fuel → w[18]? = some (z_c18 cI pr lm) → w[19]? = some (.inl (2, N)) → w[21]? = some (.inl (768, Q)) → w[20]? = some (.inl (12, V)) → (∀ i, V i = if 6 ≤ i ∧ i < 6 + v then P (i - 6) else P i) → ∃ w' P' Q', fM_keep_26 fuel w 18 (nI v) = some (N 1, w') ∧ w'[20]? = some (.inl (12, P')) ∧ (∀ i, i < 6 → P' i = P i ∧ P' (6 + i) = P i) ∧ w'[21]? = some (.inl (768, Q')) ∧ (∀ i, i < 384 → Q' i = Q i ∧ Q' (384 + i) = Q i) ∧ ∀ j, j ≠ 20 → j ≠ 21 → w'[j]? = w[j]? := by
  intro k
  induction k with
  | zero =>
    intro v fuel w V hv hk h18 h19 h21 h20 hV
    obtain ⟨m, rfl⟩ := z_suc hk
    rw [fM_keep_26, if_pos (show (6 : Int32) ≤ nI v from nI_le (a := 6) (by omega) (by omega))]
    obtain ⟨w', Q', r1, r2, r3, r4⟩ := z_kp55 384 0 x_F w Q (by omega) (by unfold x_F; omega) h18 h19 h21 (fun i => by rw [if_neg (by omega)])
    refine ⟨w', V, Q', r1, by rw [r4 20 (by omega)]; exact h20, fun i hi => ⟨?_, ?_⟩, r2, r3, fun j _ hj => r4 j hj⟩
    · rw [hV, if_neg (by omega)]
    · rw [hV, if_pos (by omega), show 6 + i - 6 = i by omega]
  | succ k ih =>
    intro v fuel w V hv hk h18 h19 h21 h20 hV
    obtain ⟨m, rfl⟩ := z_suc hk
    rw [fM_keep_26, if_neg (show ¬ (6 : Int32) ≤ nI v from nI_ge (b := 6) (by omega) (by omega)), (z_f18 h18).2.2.1, Option.bind_some, z_ai h20 (by omega) (by omega), Option.bind_some, show (6 : Int32) = nI 6 from rfl, nI_add, z_pa h20 (by omega) (by omega), Option.bind_some, z_inc]
    have e : ∀ j, j ≠ 20 → (w.set 20 (.inl (12, upd V (6 + v) (V v))))[j]? = w[j]? := fun j hj => z_else (Ne.symm hj)
    obtain ⟨w', P', Q', r1, r2, r3, r4, r5, r6⟩ := ih (v + 1) m (w.set 20 (.inl (12, upd V (6 + v) (V v)))) (upd V (6 + v) (V v)) (by omega) (by omega) (by rw [e 18 (by omega)]; exact h18) (by rw [e 19 (by omega)]; exact h19) (by rw [e 21 (by omega)]; exact h21) (z_self h20) (fun i => by
      by_cases c : i = 6 + v
      · rw [c, z_upd_s, hV, if_neg (by omega), if_pos (by omega), show 6 + v - 6 = v by omega]
      · rw [z_upd_n c, hV]
        by_cases q2 : 6 ≤ i ∧ i < 6 + v
        · rw [if_pos q2, if_pos (by omega)]
        · rw [if_neg q2, if_neg (by omega)])
    exact ⟨w', P', Q', r1, r2, r3, r4, r5, fun j h0 hj => by rw [r6 j h0 hj, e j h0]⟩
section
variable {w : x_W} {n n' h h' : Nat} {f f' : Nat → Nat} {t t' : Nat → Nat → Nat}
theorem z_Mswap (M : z_ms w n f t h n' f' t' h') : ∃ w', fM_swap w 18 = some (nI n', w') ∧ z_ms w' n' f' t' h' n f t h ∧ ∀ j, j < 18 → w'[j]? = w[j]? := by
  have hn := M.1.2.1
  have hn' := M.2.1.2.1
  obtain ⟨o, o', ⟨⟨cI, pr, lm, r1⟩, r2, r3, r4, r5, r6⟩, ⟨N, d1, d2, d3⟩, ⟨P, d4, d5, d6⟩, ⟨Q, d7, d8, d9⟩, D, e1, e2, e3⟩ := M
  have a0 : x_ai w 19 0 = some (N 0) := z_ai (j := 0) d1 (by omega) (by omega)
  have a1 : x_ai w 19 1 = some (N 1) := z_ai (j := 1) d1 (by omega) (by omega)
  have a2 : ∀ x, x_pa w 19 0 x = some (w.set 19 (.inl (2, upd N 0 x))) := fun x => z_pa (j := 0) d1 (by omega) (by omega)
  have b18 : (w.set 19 (.inl (2, upd N 0 (N 1))))[18]? = some (z_c18 cI pr lm) := by rw [z_else (by omega)]; exact r1
  have b19 := z_self (c' := .inl (2, upd N 0 (N 1))) d1
  have a3 : ∀ x, x_pa (w.set 19 (.inl (2, upd N 0 (N 1)))) 19 1 x = some ((w.set 19 (.inl (2, upd N 0 (N 1)))).set 19 (.inl (2, upd (upd N 0 (N 1)) 1 x))) := fun x => z_pa (j := 1) b19 (by omega) (by omega)
  have c18 : (w.set 19 (.inl (2, upd (upd N 0 (N 1)) 1 (N 0))))[18]? = some (z_c18 cI pr lm) := by rw [z_else (by omega)]; exact r1
  have c22 : (w.set 19 (.inl (2, upd (upd N 0 (N 1)) 1 (N 0))))[22]? = some (.inl (2, D)) := by rw [z_else (by omega)]; exact e1
  have a4 : x_ai (w.set 19 (.inl (2, upd (upd N 0 (N 1)) 1 (N 0)))) 22 0 = some (D 0) := z_ai (j := 0) c22 (by omega) (by omega)
  have a5 : x_ai (w.set 19 (.inl (2, upd (upd N 0 (N 1)) 1 (N 0)))) 22 1 = some (D 1) := z_ai (j := 1) c22 (by omega) (by omega)
  have a6 : ∀ x, x_pa (w.set 19 (.inl (2, upd (upd N 0 (N 1)) 1 (N 0)))) 22 0 x = some ((w.set 19 (.inl (2, upd (upd N 0 (N 1)) 1 (N 0)))).set 22 (.inl (2, upd D 0 x))) := fun x => z_pa (j := 0) c22 (by omega) (by omega)
  have f18 : ((w.set 19 (.inl (2, upd (upd N 0 (N 1)) 1 (N 0)))).set 22 (.inl (2, upd D 0 (D 1))))[18]? = some (z_c18 cI pr lm) := by rw [z_else (by omega)]; exact c18
  have f22 := z_self (c' := .inl (2, upd D 0 (D 1))) c22
  have a7 : ∀ x, x_pa ((w.set 19 (.inl (2, upd (upd N 0 (N 1)) 1 (N 0)))).set 22 (.inl (2, upd D 0 (D 1)))) 22 1 x = some (((w.set 19 (.inl (2, upd (upd N 0 (N 1)) 1 (N 0)))).set 22 (.inl (2, upd D 0 (D 1)))).set 22 (.inl (2, upd (upd D 0 (D 1)) 1 x))) := fun x => z_pa (j := 1) f22 (by omega) (by omega)
  have e : ∀ j, j ≠ 19 → j ≠ 22 → ((w.set 19 (.inl (2, upd (upd N 0 (N 1)) 1 (N 0)))).set 22 (.inl (2, upd (upd D 0 (D 1)) 1 (D 0))))[j]? = w[j]? := fun j h1 h2 => by rw [z_else (Ne.symm h2), z_else (Ne.symm h1)]
  have g19 : ((w.set 19 (.inl (2, upd (upd N 0 (N 1)) 1 (N 0)))).set 22 (.inl (2, upd (upd D 0 (D 1)) 1 (D 0))))[19]? = some (.inl (2, upd (upd N 0 (N 1)) 1 (N 0))) := by rw [z_else (by omega)]; exact z_self d1
  have g22 := z_self (c' := .inl (2, upd (upd D 0 (D 1)) 1 (D 0))) c22
  obtain ⟨w', P', Q', s1, s2, s3, s4, s5, s6⟩ := z_sw54 (P := P) (Q := Q) 6 0 x_F ((w.set 19 (.inl (2, upd (upd N 0 (N 1)) 1 (N 0)))).set 22 (.inl (2, upd (upd D 0 (D 1)) 1 (D 0)))) P (by omega) (by unfold x_F; omega) (by rw [e 18 (by omega) (by omega)]; exact r1) g19 (by rw [e 21 (by omega) (by omega)]; exact d7) (by rw [e 20 (by omega) (by omega)]; exact d4) (fun i => by rw [if_neg (by omega), if_neg (by omega)])
  have E : ∀ j, j < 19 ∨ 22 < j → w'[j]? = w[j]? := fun j hj => by rw [s6 j (by omega) (by omega), e j (by omega) (by omega)]
  refine ⟨w', ?_, ⟨o', o, ⟨⟨cI, pr, lm, by rw [E 18 (by omega)]; exact r1⟩, by rw [E 23 (by omega)]; exact r2, by rw [E 24 (by omega)]; exact r3, by rw [E 25 (by omega)]; exact r4, by rw [E 26 (by omega)]; exact r5, by rw [E 27 (by omega)]; exact r6⟩, ⟨_, by rw [s6 19 (by omega) (by omega)]; exact g19, by rw [z_upd_n (by omega), z_upd_s]; exact d3, by rw [z_upd_s]; exact d2⟩, ⟨P', s2, ?_, ?_⟩, ⟨Q', s4, ?_, ?_⟩, ⟨_, by rw [s6 22 (by omega) (by omega)]; exact g22, by rw [z_upd_n (by omega), z_upd_s]; exact e3, by rw [z_upd_s]; exact e2⟩⟩, fun j hj => E j (by omega)⟩
  · unfold fM_swap
    rw [(z_f18 r1).2.1, Option.bind_some, a0, Option.bind_some, a1, Option.bind_some, a2, Option.bind_some, (z_f18 b18).2.1, Option.bind_some, a3, Option.bind_some, List.set_set, (z_f18 c18).2.2.2.2, Option.bind_some, a4, Option.bind_some, a5, Option.bind_some, a6, Option.bind_some, (z_f18 f18).2.2.2.2, Option.bind_some, a7, Option.bind_some, List.set_set]
    rw [← d3]
    exact s1
  · intro p hp
    rw [(s3 p (by omega)).1]; exact d6 p hp
  · intro p hp
    rw [(s3 p (by omega)).2]; exact d5 p hp
  · intro p hp v hv hs
    rw [(s5 (p * 64 + v) (by omega)).1, show 384 + (p * 64 + v) = (6 + p) * 64 + v by omega]; exact d9 p hp v hv hs
  · intro p hp v hv hs
    rw [show (6 + p) * 64 + v = 384 + (p * 64 + v) by omega, (s5 (p * 64 + v) (by omega)).2]; exact d8 p hp v hv hs
theorem z_Mkeep (M : z_ms w n f t h n' f' t' h') : ∃ w', fM_keep w 18 = some (nI n, w') ∧ z_ms w' n f t h n f t h ∧ ∀ j, j < 18 → w'[j]? = w[j]? := by
  have hn := M.1.2.1
  obtain ⟨o, o', ⟨⟨cI, pr, lm, r1⟩, r2, r3, r4, r5, r6⟩, ⟨N, d1, d2, d3⟩, ⟨P, d4, d5, d6⟩, ⟨Q, d7, d8, d9⟩, D, e1, e2, e3⟩ := M
  have a0 : x_ai w 19 0 = some (N 0) := z_ai (j := 0) d1 (by omega) (by omega)
  have a1 : ∀ x, x_pa w 19 1 x = some (w.set 19 (.inl (2, upd N 1 x))) := fun x => z_pa (j := 1) d1 (by omega) (by omega)
  have c18 : (w.set 19 (.inl (2, upd N 1 (N 0))))[18]? = some (z_c18 cI pr lm) := by rw [z_else (by omega)]; exact r1
  have c22 : (w.set 19 (.inl (2, upd N 1 (N 0))))[22]? = some (.inl (2, D)) := by rw [z_else (by omega)]; exact e1
  have a4 : x_ai (w.set 19 (.inl (2, upd N 1 (N 0)))) 22 0 = some (D 0) := z_ai (j := 0) c22 (by omega) (by omega)
  have a5 : ∀ x, x_pa (w.set 19 (.inl (2, upd N 1 (N 0)))) 22 1 x = some ((w.set 19 (.inl (2, upd N 1 (N 0)))).set 22 (.inl (2, upd D 1 x))) := fun x => z_pa (j := 1) c22 (by omega) (by omega)
  have e : ∀ j, j ≠ 19 → j ≠ 22 → ((w.set 19 (.inl (2, upd N 1 (N 0)))).set 22 (.inl (2, upd D 1 (D 0))))[j]? = w[j]? := fun j h1 h2 => by rw [z_else (Ne.symm h2), z_else (Ne.symm h1)]
  have g19 : ((w.set 19 (.inl (2, upd N 1 (N 0)))).set 22 (.inl (2, upd D 1 (D 0))))[19]? = some (.inl (2, upd N 1 (N 0))) := by rw [z_else (by omega)]; exact z_self d1
  have g22 := z_self (c' := .inl (2, upd D 1 (D 0))) c22
  obtain ⟨w', P', Q', s1, s2, s3, s4, s5, s6⟩ := z_kp26 (P := P) (Q := Q) 6 0 x_F ((w.set 19 (.inl (2, upd N 1 (N 0)))).set 22 (.inl (2, upd D 1 (D 0)))) P (by omega) (by unfold x_F; omega) (by rw [e 18 (by omega) (by omega)]; exact r1) g19 (by rw [e 21 (by omega) (by omega)]; exact d7) (by rw [e 20 (by omega) (by omega)]; exact d4) (fun i => by rw [if_neg (by omega)])
  have E : ∀ j, j < 19 ∨ 22 < j → w'[j]? = w[j]? := fun j hj => by rw [s6 j (by omega) (by omega), e j (by omega) (by omega)]
  refine ⟨w', ?_, ⟨o, o, ⟨⟨cI, pr, lm, by rw [E 18 (by omega)]; exact r1⟩, by rw [E 23 (by omega)]; exact r2, by rw [E 24 (by omega)]; exact r3, by rw [E 25 (by omega)]; exact r4, by rw [E 26 (by omega)]; exact r5, by rw [E 27 (by omega)]; exact r6⟩, ⟨_, by rw [s6 19 (by omega) (by omega)]; exact g19, by rw [z_upd_n (by omega)]; exact d2, by rw [z_upd_s]; exact d2⟩, ⟨P', s2, ?_, ?_⟩, ⟨Q', s4, ?_, ?_⟩, ⟨_, by rw [s6 22 (by omega) (by omega)]; exact g22, by rw [z_upd_n (by omega)]; exact e2, by rw [z_upd_s]; exact e2⟩⟩, fun j hj => E j (by omega)⟩
  · unfold fM_keep
    rw [(z_f18 r1).2.1, Option.bind_some, a0, Option.bind_some, a1, Option.bind_some, (z_f18 c18).2.2.2.2, Option.bind_some, a4, Option.bind_some, a5, Option.bind_some]
    rw [← d2]
    exact s1
  · intro p hp
    rw [(s3 p (by omega)).1]; exact d5 p hp
  · intro p hp
    rw [(s3 p (by omega)).2]; exact d5 p hp
  · intro p hp v hv hs
    rw [(s5 (p * 64 + v) (by omega)).1]; exact d8 p hp v hv hs
  · intro p hp v hv hs
    rw [show (6 + p) * 64 + v = 384 + (p * 64 + v) by omega, (s5 (p * 64 + v) (by omega)).2]; exact d8 p hp v hv hs
end
