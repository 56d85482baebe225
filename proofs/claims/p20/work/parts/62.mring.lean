/-! the reference's search of like graphs: cells, and the ring test -/
theorem z_shK : ∀ i, i < 31 → ((nI i &&& 31).toBitVec.smod 32).toNat = i := by decide +kernel
theorem z_hasB {m i : Nat} (hi : i < 31) : fM_has (nI m) (nI i) = if m.testBit i then 1 else 0 := by
  have e : (nI m >>> (nI i &&& 31)).toBitVec = (nI m).toBitVec.sshiftRight i := by
    rw [Int32.toBitVec_shiftRight, BitVec.sshiftRight', z_shK i hi]
  have b0 : ((nI m).toBitVec.sshiftRight i).getLsbD 0 = m.testBit i := by
    rw [BitVec.getLsbD_sshiftRight]
    show (!decide (32 ≤ 0) && if i + 0 < 32 then (BitVec.ofNat 32 m).getLsbD (i + 0) else _) = _
    rw [if_pos (by omega), BitVec.getLsbD_ofNat]
    simp [show i < 32 by omega]
  have b : ((nI m >>> (nI i &&& 31)) &&& (1 : Int32) = 1) ↔ m.testBit i = true := by
    rw [← Int32.toBitVec_inj, Int32.toBitVec_and, e, show (1 : Int32).toBitVec = 1#32 from rfl, BitVec.and_one_eq_setWidth_ofBool_getLsbD, b0]
    cases m.testBit i <;> decide
  unfold fM_has
  by_cases c : m.testBit i = true
  · rw [if_pos (b.mpr c), if_pos c]
  · rw [if_neg (fun q => c (b.mp q)), if_neg c]
def z_q (w : x_W) (n : Nat) (f : Nat → Nat) (cI pr lm : Int32) (PA PB FR SU : Nat → Int32) : Prop := w[18]? = some (.inr (5, [.ref 19, .ref 20, .ref 21, .ref 22, .int cI, .ref 23, .ref 24, .ref 25, .int pr, .ref 26, .ref 27, .int lm])) ∧ (∃ N, w[19]? = some (.inl (2, N)) ∧ N 0 = nI n) ∧ (∃ P, w[20]? = some (.inl (12, P)) ∧ ∀ p, p < n → P p = nI (f p)) ∧ w[24]? = some (.inl (15, PA)) ∧ w[25]? = some (.inl (15, PB)) ∧ w[26]? = some (.inl (6, FR)) ∧ w[27]? = some (.inl (6, SU))
def z_kF (w w' : x_W) : Prop := ∀ k, k ≠ 18 → (k < 24 ∨ 27 < k) → w'[k]? = w[k]?
theorem z_kF_t {w w' w'' : x_W} (K : z_kF w w') (K' : z_kF w' w'') : z_kF w w'' := fun k h1 h2 => by rw [K' k h1 h2, K k h1 h2]
section
variable {w : x_W} {n : Nat} {f u : Nat → Nat} {cI pr lm : Int32} {PA PB FR SU : Nat → Int32}
theorem z_q_ob (Q : z_q w n f cI pr lm PA PB FR SU) : x_ob w 18 5 = some () := z_ob Q.1
theorem z_q_n (Q : z_q w n f cI pr lm PA PB FR SU) : fM_n w 18 = some (nI n) := by
  obtain ⟨q, ⟨N, a, b⟩, -⟩ := Q
  have r := z_ai (j := 0) a (by omega) (by omega)
  rw [show nI 0 = (0 : Int32) from rfl] at r
  unfold fM_n
  rw [z_fr q]
  show (some 19).bind _ = _
  rw [Option.bind_some, r, Option.bind_some, b]
theorem z_q_1 (Q : z_q w n f cI pr lm PA PB FR SU) : x_fr w 18 5 1 = some 20 := by rw [z_fr Q.1]; rfl
theorem z_q_6 (Q : z_q w n f cI pr lm PA PB FR SU) : x_fr w 18 5 6 = some 24 := by rw [z_fr Q.1]; rfl
theorem z_q_7 (Q : z_q w n f cI pr lm PA PB FR SU) : x_fr w 18 5 7 = some 25 := by rw [z_fr Q.1]; rfl
theorem z_q_9 (Q : z_q w n f cI pr lm PA PB FR SU) : x_fr w 18 5 9 = some 26 := by rw [z_fr Q.1]; rfl
theorem z_q_10 (Q : z_q w n f cI pr lm PA PB FR SU) : x_fr w 18 5 10 = some 27 := by rw [z_fr Q.1]; rfl
theorem z_q_8 (Q : z_q w n f cI pr lm PA PB FR SU) : x_fi w 18 5 8 = some pr := by rw [z_fi Q.1]; rfl
theorem z_q_11 (Q : z_q w n f cI pr lm PA PB FR SU) : x_fi w 18 5 11 = some lm := by rw [z_fi Q.1]; rfl
theorem z_q_f (Q : z_q w n f cI pr lm PA PB FR SU) (hn : n ≤ 6) {p : Nat} (hp : p < n) : x_ai w 20 (nI p) = some (nI (f p)) := by
  obtain ⟨P, a, b⟩ := Q.2.2.1
  rw [z_ai a (by omega) (by omega), b p hp]
theorem z_q_w24 (Q : z_q w n f cI pr lm PA PB FR SU) {i : Nat} (hi : i < 15) (x : Int32) : ∃ w', x_pa w 24 (nI i) x = some w' ∧ z_q w' n f cI pr lm (upd PA i x) PB FR SU ∧ z_kF w w' := by
  obtain ⟨q, a, b, c4, c5, c6, c7⟩ := Q
  have e : ∀ j, j ≠ 24 → (w.set 24 (.inl (15, upd PA i x)))[j]? = w[j]? := fun j hj => z_else (Ne.symm hj)
  exact ⟨_, z_pa c4 hi (by omega), ⟨by rw [e 18 (by omega)]; exact q, by rw [e 19 (by omega)]; exact a, by rw [e 20 (by omega)]; exact b, z_self c4, by rw [e 25 (by omega)]; exact c5, by rw [e 26 (by omega)]; exact c6, by rw [e 27 (by omega)]; exact c7⟩, fun k h1 h2 => e k (by omega)⟩
theorem z_q_w25 (Q : z_q w n f cI pr lm PA PB FR SU) {i : Nat} (hi : i < 15) (x : Int32) : ∃ w', x_pa w 25 (nI i) x = some w' ∧ z_q w' n f cI pr lm PA (upd PB i x) FR SU ∧ z_kF w w' := by
  obtain ⟨q, a, b, c4, c5, c6, c7⟩ := Q
  have e : ∀ j, j ≠ 25 → (w.set 25 (.inl (15, upd PB i x)))[j]? = w[j]? := fun j hj => z_else (Ne.symm hj)
  exact ⟨_, z_pa c5 hi (by omega), ⟨by rw [e 18 (by omega)]; exact q, by rw [e 19 (by omega)]; exact a, by rw [e 20 (by omega)]; exact b, by rw [e 24 (by omega)]; exact c4, z_self c5, by rw [e 26 (by omega)]; exact c6, by rw [e 27 (by omega)]; exact c7⟩, fun k h1 h2 => e k (by omega)⟩
theorem z_q_w26 (Q : z_q w n f cI pr lm PA PB FR SU) {i : Nat} (hi : i < 6) (x : Int32) : ∃ w', x_pa w 26 (nI i) x = some w' ∧ z_q w' n f cI pr lm PA PB (upd FR i x) SU ∧ z_kF w w' := by
  obtain ⟨q, a, b, c4, c5, c6, c7⟩ := Q
  have e : ∀ j, j ≠ 26 → (w.set 26 (.inl (6, upd FR i x)))[j]? = w[j]? := fun j hj => z_else (Ne.symm hj)
  exact ⟨_, z_pa c6 hi (by omega), ⟨by rw [e 18 (by omega)]; exact q, by rw [e 19 (by omega)]; exact a, by rw [e 20 (by omega)]; exact b, by rw [e 24 (by omega)]; exact c4, by rw [e 25 (by omega)]; exact c5, z_self c6, by rw [e 27 (by omega)]; exact c7⟩, fun k h1 h2 => e k (by omega)⟩
theorem z_q_w27 (Q : z_q w n f cI pr lm PA PB FR SU) {i : Nat} (hi : i < 6) (x : Int32) : ∃ w', x_pa w 27 (nI i) x = some w' ∧ z_q w' n f cI pr lm PA PB FR (upd SU i x) ∧ z_kF w w' := by
  obtain ⟨q, a, b, c4, c5, c6, c7⟩ := Q
  have e : ∀ j, j ≠ 27 → (w.set 27 (.inl (6, upd SU i x)))[j]? = w[j]? := fun j hj => z_else (Ne.symm hj)
  exact ⟨_, z_pa c7 hi (by omega), ⟨by rw [e 18 (by omega)]; exact q, by rw [e 19 (by omega)]; exact a, by rw [e 20 (by omega)]; exact b, by rw [e 24 (by omega)]; exact c4, by rw [e 25 (by omega)]; exact c5, by rw [e 26 (by omega)]; exact c6, z_self c7⟩, fun k h1 h2 => e k (by omega)⟩
theorem z_q_w8 (Q : z_q w n f cI pr lm PA PB FR SU) (x : Int32) : ∃ w', x_pf w 18 5 8 (.int x) = some w' ∧ z_q w' n f cI x lm PA PB FR SU ∧ z_kF w w' := by
  obtain ⟨q, a, b, c4, c5, c6, c7⟩ := Q
  have e : ∀ (c : x_C) j, j ≠ 18 → (w.set 18 c)[j]? = w[j]? := fun c j hj => z_else (Ne.symm hj)
  exact ⟨_, z_pf q (by simp), ⟨z_self q, by rw [e _ 19 (by omega)]; exact a, by rw [e _ 20 (by omega)]; exact b, by rw [e _ 24 (by omega)]; exact c4, by rw [e _ 25 (by omega)]; exact c5, by rw [e _ 26 (by omega)]; exact c6, by rw [e _ 27 (by omega)]; exact c7⟩, fun k h1 h2 => e _ k h1⟩
theorem z_q_w11 (Q : z_q w n f cI pr lm PA PB FR SU) (x : Int32) : ∃ w', x_pf w 18 5 11 (.int x) = some w' ∧ z_q w' n f cI pr x PA PB FR SU ∧ z_kF w w' := by
  obtain ⟨q, a, b, c4, c5, c6, c7⟩ := Q
  have e : ∀ (c : x_C) j, j ≠ 18 → (w.set 18 c)[j]? = w[j]? := fun c j hj => z_else (Ne.symm hj)
  exact ⟨_, z_pf q (by simp), ⟨z_self q, by rw [e _ 19 (by omega)]; exact a, by rw [e _ 20 (by omega)]; exact b, by rw [e _ 24 (by omega)]; exact c4, by rw [e _ 25 (by omega)]; exact c5, by rw [e _ 26 (by omega)]; exact c6, by rw [e _ 27 (by omega)]; exact c7⟩, fun k h1 h2 => e _ k h1⟩
end
/-- the ring test: k more places from place j on, the set s already laid -/
def z_ri (u : Nat → Nat) : Nat → Nat → Nat → Nat
  | 0, _, s => s
  | k + 1, j, s => z_ri u k (j + 1) (if u j &&& (63 - s) = 0 then s ||| 2 ^ j else s)
def z_ro (u : Nat → Nat) (n : Nat) : Nat → Nat → Nat
  | 0, s => s
  | k + 1, s => z_ro u n k (z_ri u n 0 s)
def z_nr (n : Nat) (u : Nat → Nat) : Bool := decide (z_ro u n n 0 = 2 ^ n - 1)
section
variable {w : x_W} {n : Nat} {u : Nat → Nat}
theorem z_ri64 : ∀ k j s, j + k ≤ 6 → s < 64 → z_ri u k j s < 64
  | 0, j, s, _, hs => hs
  | k + 1, j, s, hj, hs => by
    refine z_ri64 k (j + 1) _ (by omega) ?_
    split
    · exact Nat.or_lt_two_pow (n := 6) hs (Nat.lt_of_lt_of_le (Nat.pow_lt_pow_right (by omega) (show j < 6 by omega)) (by omega))
    · exact hs
theorem z_Mring (U : z_ar w 26 n u) (hn : n ≤ 6) (h9 : x_fr w 18 5 9 = some 26) : fM_hasNoRing w 18 (nI n) = some (z_b01 (z_nr n u)) := by
  have inner : ∀ (k4 : Nat → Int32 → Int32 → Int32 → Option Int32) (v3 : Int32) k q fuel s, q + k = n → k < fuel → s < 64 → fM_hasNoRing_12 w k4 fuel 18 (nI n) (nI s) v3 (nI q) = k4 18 (nI n) (nI (z_ri u k q s)) (v3 + 1) := by
    intro k4 v3 k
    induction k with
    | zero =>
      intro q fuel s hq hf hs
      obtain ⟨m, rfl⟩ := z_suc hf
      rw [fM_hasNoRing_12, if_pos (nI_le (show n ≤ q by omega) (by omega))]
      rfl
    | succ k ih =>
      intro q fuel s hq hf hs
      obtain ⟨m, rfl⟩ := z_suc hf
      obtain ⟨u1, u2⟩ := U q (by omega)
      have b1 : s ||| 2 ^ q < 64 := Nat.or_lt_two_pow (n := 6) hs (Nat.lt_of_lt_of_le (Nat.pow_lt_pow_right (by omega) (show q < 6 by omega)) (by omega))
      rw [fM_hasNoRing_12, if_neg (nI_ge (show q < n by omega) (by omega)), h9, Option.bind_some, u2, Option.bind_some, z_not _ u1 _ hs, z_bit q (by omega), z_or, z_inc, ih (q + 1) m _ (by omega) (by omega) hs, ih (q + 1) m _ (by omega) (by omega) b1, z_ri]
      by_cases c : u q &&& (63 - s) = 0
      · rw [if_pos ((z_nz (Nat.lt_of_le_of_lt Nat.and_le_left (by omega))).mpr c), if_pos c]
      · rw [if_neg (fun e => c ((z_nz (Nat.lt_of_le_of_lt Nat.and_le_left (by omega))).mp e)), if_neg c]
  have outer : ∀ k i fuel s, i + k = n → k < fuel → s < 64 → fM_hasNoRing_4 w fuel 18 (nI n) (nI s) (nI i) = some (z_b01 (decide (z_ro u n k s = 2 ^ n - 1))) := by
    intro k
    induction k with
    | zero =>
      intro i fuel s hi hf hs
      obtain ⟨m, rfl⟩ := z_suc hf
      have p1 : 2 ^ n ≤ 64 := z_pow hn
      have p2 := Nat.two_pow_pos n
      have e : (1 : Int32) <<< (nI n &&& 31) - 1 = nI (2 ^ n - 1) := by
        rw [z_bit n (by omega), show (1 : Int32) = nI 1 from rfl, pk_sub (by omega)]
      rw [fM_hasNoRing_4, if_pos (nI_le (show n ≤ i by omega) (by omega)), e, z_ro]
      by_cases c : s = 2 ^ n - 1
      · rw [if_pos (by rw [c]), decide_eq_true c]; rfl
      · rw [if_neg (fun q => c ((nI_eq (by omega) (by omega)).mp q)), decide_eq_false c]; rfl
    | succ k ih =>
      intro i fuel s hi hf hs
      obtain ⟨m, rfl⟩ := z_suc hf
      rw [fM_hasNoRing_4, if_neg (nI_ge (show i < n by omega) (by omega))]
      have e := inner (fM_hasNoRing_4 w m) (nI i) n 0 x_F s (by omega) (by unfold x_F; omega) hs
      rw [show nI 0 = (0 : Int32) from rfl] at e
      rw [e, z_inc, ih (i + 1) m _ (by omega) (by omega) (z_ri64 n 0 s (by omega) hs), z_ro]
  unfold fM_hasNoRing
  have e := outer n 0 x_F 0 (by omega) (by unfold x_F; omega) (by omega)
  rw [show nI 0 = (0 : Int32) from rfl] at e
  rw [e]; rfl
end
