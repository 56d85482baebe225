/-! count and of, the like graphs among them: both sides answer alike -/
section
variable {w : x_W} {n n' h h' c : Nat} {f f' bs S : Nat → Nat} {t t' : Nat → Nat → Nat} {o : List Nat}
theorem z_sureW1 (Y : z_ly w n bs o c S) (hn : n ≤ 6) (hS : ∀ p, p < n → S p < 64) : fK_howManySure w 11 = some (nI (z_sum (fun p => z_pc (S p)) n)) := by
  have L := z_ly_lk Y
  obtain ⟨-, -, -, -, U, y5, hU⟩ := Y
  have loop : ∀ k q fuel, q + k = n → k < fuel → fK_howManySure_4 w fuel 11 (nI (z_sum (fun p => z_pc (S p)) q)) (nI q) = some (nI (z_sum (fun p => z_pc (S p)) n)) := by
    intro k
    induction k with
    | zero =>
      intro q fuel hq hf
      obtain ⟨m, rfl⟩ := z_suc hf
      rw [fK_howManySure_4, (z_lk0 L).2.2.2.2.2, Option.bind_some, if_pos (nI_le (show n ≤ q by omega) (by omega)), show q = n by omega]
    | succ k ih =>
      intro q fuel hq hf
      obtain ⟨m, rfl⟩ := z_suc hf
      have hlt : q < n := by omega
      rw [fK_howManySure_4, (z_lk0 L).2.2.2.2.2, Option.bind_some, if_neg (nI_ge hlt (by omega)), (z_lk0 L).2.2.2.2.1, Option.bind_some, z_ai y5 (show q < 6 by omega) (by omega), Option.bind_some, hU q hlt, z_bitCount _ (hS q hlt), nI_add, z_inc]
      exact ih (q + 1) m (by omega) (by omega)
  unfold fK_howManySure
  exact loop n 0 x_F (by omega) (by unfold x_F; omega)
theorem z_sureW2 (Y : z_ly w n bs o c S) (hn : n ≤ 6) (hS : ∀ p, p < n → S p < 64) {p : Nat} (hp : p < n) : fK_sureFrom w 11 (nI p) = some (nI (z_mk (fun q => (S q).testBit p) n)) := by
  have L := z_ly_lk Y
  obtain ⟨-, -, -, -, U, y5, hU⟩ := Y
  have loop : ∀ k q fuel, q + k = n → k < fuel → fK_sureFrom_4 w fuel 11 (nI p) (nI (z_mk (fun q => (S q).testBit p) q)) (nI q) = some (nI (z_mk (fun q => (S q).testBit p) n)) := by
    intro k
    induction k with
    | zero =>
      intro q fuel hq hf
      obtain ⟨m, rfl⟩ := z_suc hf
      rw [fK_sureFrom_4, (z_lk0 L).2.2.2.2.2, Option.bind_some, if_pos (nI_le (show n ≤ q by omega) (by omega)), show q = n by omega]
    | succ k ih =>
      intro q fuel hq hf
      obtain ⟨m, rfl⟩ := z_suc hf
      have hlt : q < n := by omega
      have i1 := ih (q + 1) m (by omega) (by omega)
      rw [fK_sureFrom_4, (z_lk0 L).2.2.2.2.2, Option.bind_some, if_neg (nI_ge hlt (by omega)), (z_lk0 L).2.2.2.2.1, Option.bind_some, z_ai y5 (show q < 6 by omega) (by omega), Option.bind_some, hU q hlt, z_has _ (hS q hlt) _ (show p < 6 by omega), z_bit q (by omega), z_or, z_inc]
      rw [z_mk] at i1
      by_cases c : (S q).testBit p = true
      · rw [if_pos c] at i1
        rw [if_pos c, if_neg (by decide)]
        exact i1
      · rw [if_neg c, Nat.or_zero] at i1
        rw [if_neg c, if_pos rfl]
        exact i1
  unfold fK_sureFrom
  exact loop n 0 x_F (by omega) (by unfold x_F; omega)
theorem z_findS (C : z_cs w n f t h n' f' t' h') : ∃ g w' d, z_A w g ∧ z_gc w g n f t h ∧ z_A w' g ∧ x_ob w 11 4 = some () ∧ fK_find w 11 (g + 1) = some w' ∧ z_kC w w' ∧ x_fi w' 11 4 5 = some (nI (z_cnt f n)) ∧ z_ly w' n (z_bsd f n) [] d (z_su f n) := by
  obtain ⟨g, A, G, G', S⟩ := C
  have hn := G.1.2.1
  have hf := G.1.2.2.1
  have hg : g ≤ 5 := by have := A.2; omega
  obtain ⟨w', b1, b2, b3⟩ := z_findW S hg G
  rw [z_like_len hn hf, show z_fand (z_bsd f n) (z_lv (z_bsd f n) f n n []) f = z_su f n from funext (z_like_and hn hf)] at b2
  obtain ⟨s, d', k0⟩ := S.2.1
  exact ⟨g, w', _, A, G, ⟨by rw [b3 0 (by omega)]; exact A.1, A.2⟩, z_ob k0, b1, z_kL_kC S (z_kK_L b2 b3), by rw [z_fi b2.1]; rfl, b2⟩
theorem z_Ccount2 (C : z_cs w n f t h n' f' t' h') {k : Nat} (hk : k < 7) : ∃ w', fA_count w 0 (nI k) = some (nI (z_cnL f n h k), w') ∧ z_kC w w' := by
  by_cases c3 : k = 3
  · subst c3
    obtain ⟨g, w', d, A, G, A1, o1, b1, b2, b3, b4⟩ := z_findS C
    refine ⟨w', ?_, b2⟩
    unfold fA_count
    rw [if_neg (by decide), if_neg (by decide), if_neg (by decide), if_pos (show nI 3 = (3 : Int32) from rfl), (z_A0 A).2.2.2.2.1, Option.bind_some, (z_A0 A).2.1, Option.bind_some, (z_G0 G).2.1, Option.bind_some, o1, Option.bind_some, b1, Option.bind_some, (z_A0 A1).2.2.2.2.1, Option.bind_some, b3]
    rfl
  · by_cases c4 : k = 4
    · subst c4
      obtain ⟨g, w', d, A, G, A1, o1, b1, b2, b3, b4⟩ := z_findS C
      refine ⟨w', ?_, b2⟩
      have hn := G.1.2.1
      have hS : ∀ p, p < n → z_su f n p < 64 := fun p hp => Nat.lt_of_le_of_lt z_su_le (Nat.lt_of_lt_of_le (G.1.2.2.1 p hp) (z_pow (by omega)))
      unfold fA_count
      rw [if_neg (by decide), if_neg (by decide), if_neg (by decide), if_neg (by decide), if_pos (show nI 4 = (4 : Int32) from rfl), (z_A0 A).2.2.2.2.1, Option.bind_some, (z_A0 A).2.1, Option.bind_some, (z_G0 G).2.1, Option.bind_some, o1, Option.bind_some, b1, Option.bind_some, (z_A0 A1).2.2.2.2.1, Option.bind_some, (z_lk0 (z_ly_lk b4)).1, Option.bind_some, z_sureW1 b4 hn hS, Option.bind_some]
      rfl
    · obtain ⟨r, w', a1, a2, a3⟩ := z_Ccount C hk
      refine ⟨w', ?_, a2⟩
      rw [a1, a3 c3 c4, z_cnL, if_neg c3, if_neg c4]
theorem z_Cof2 (C : z_cs w n f t h n' f' t' h') {p k : Nat} (hp : p < n) (hk : k < 6) : ∃ w', fA_of w 0 (nI p) (nI k) = some (nI (z_onL f n h p k), w') ∧ z_kC w w' := by
  by_cases c5 : k = 5
  · subst c5
    obtain ⟨g, w', d, A, G, A1, o1, b1, b2, b3, b4⟩ := z_findS C
    refine ⟨w', ?_, b2⟩
    have hn := G.1.2.1
    have hS : ∀ p, p < n → z_su f n p < 64 := fun p hp => Nat.lt_of_le_of_lt z_su_le (Nat.lt_of_lt_of_le (G.1.2.2.1 p hp) (z_pow (by omega)))
    unfold fA_of
    rw [(z_A0 A).1, Option.bind_some, z_isPl A G hp, Option.bind_some, if_neg (by decide), if_neg (by decide), if_neg (by decide), if_neg (by decide), if_neg (by decide), if_neg (by decide), if_pos (show nI 5 = (5 : Int32) from rfl), (z_A0 A).2.2.2.2.1, Option.bind_some, (z_A0 A).2.1, Option.bind_some, (z_G0 G).2.1, Option.bind_some, o1, Option.bind_some, b1, Option.bind_some, (z_A0 A1).2.2.2.2.1, Option.bind_some, (z_lk0 (z_ly_lk b4)).1, Option.bind_some, z_sureW2 b4 hn hS hp, Option.bind_some]
    rfl
  · obtain ⟨r, w', a1, a2, a3⟩ := z_Cof C hp hk
    refine ⟨w', ?_, a2⟩
    rw [a1, a3 c5, z_onL, if_neg c5]
theorem z_LcountF (R : z_rel w) (x : Int32) : z_both2 (fA_count w 0 x) (fun w1 => fM_count w1 18 x) := by
  obtain ⟨n, f, t, h, n', f', t', h', C, M⟩ := R
  by_cases c : ∃ k, k < 7 ∧ x = nI k
  · obtain ⟨k, hk, rfl⟩ := c
    obtain ⟨w1, a1, a2⟩ := z_Ccount2 C hk
    have M1 := z_ms_far M (fun j hj => a2.2 j (Or.inr hj))
    obtain ⟨w2, b1, b2⟩ := z_Mcount M1 hk
    exact ⟨_, w1, w2, a1, z_ms_ob M1, b1, z_rel_M (z_kC_cs a2 C) M1 b2⟩
  · exact z_b0 C M (z_Ccount0 c) (z_Mcount0 c)
theorem z_LofF (R : z_rel w) (x y : Int32) : z_both2 (fA_of w 0 x y) (fun w1 => fM_of w1 18 x y) := by
  obtain ⟨n, f, t, h, n', f', t', h', C, M⟩ := R
  by_cases c : ∃ p k, p < n ∧ k < 6 ∧ x = nI p ∧ y = nI k
  · obtain ⟨p, k, hp, hk, rfl, rfl⟩ := c
    obtain ⟨w1, a1, a2⟩ := z_Cof2 C hp hk
    have M1 := z_ms_far M (fun j hj => a2.2 j (Or.inr hj))
    obtain ⟨w2, b1, b2⟩ := z_Mof M1 hp hk
    exact ⟨_, w1, w2, a1, z_ms_ob M1, b1, z_rel_M (z_kC_cs a2 C) M1 b2⟩
  · exact z_b0 C M (z_Cof0 C c) (z_Mof0 M c)
end
