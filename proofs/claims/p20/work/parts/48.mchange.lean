/-! what changes the reference's state -/
def z_c18 (cI pr lm : Int32) : x_C := .inr (5, [.ref 19, .ref 20, .ref 21, .ref 22, .int cI, .ref 23, .ref 24, .ref 25, .int pr, .ref 26, .ref 27, .int lm])
theorem z_f18 {w : x_W} {cI pr lm : Int32} (h : w[18]? = some (z_c18 cI pr lm)) : x_ob w 18 5 = some () ∧ x_fr w 18 5 0 = some 19 ∧ x_fr w 18 5 1 = some 20 ∧ x_fr w 18 5 2 = some 21 ∧ x_fr w 18 5 3 = some 22 := by
  unfold z_c18 at h
  exact ⟨z_ob h, by rw [z_fr h]; rfl, by rw [z_fr h]; rfl, by rw [z_fr h]; rfl, by rw [z_fr h]; rfl⟩
theorem z_mreset {w : x_W} {cI pr lm : Int32} {Q : Nat → Int32} {g p : Nat} (h18 : w[18]? = some (z_c18 cI pr lm)) (h21 : w[21]? = some (.inl (768, Q))) (hg : g < 2) (hp : p < 6) : ∃ w' Q', fM_resetWeights w 18 (nI g) (nI p) = some w' ∧ w'[21]? = some (.inl (768, Q')) ∧ (∀ i, Q' i = if (6 * g + p) * 64 ≤ i ∧ i < (6 * g + p) * 64 + 64 then 8 else Q i) ∧ ∀ j, j ≠ 21 → w'[j]? = w[j]? := by
  have loop : ∀ (k v fuel : Nat) (w : x_W) (V : Nat → Int32), v + k = 64 → k < fuel → w[18]? = some (z_c18 cI pr lm) → w[21]? = some (.inl (768, V)) → (∀ i, V i = if (6 * g + p) * 64 ≤ i ∧ i < (6 * g + p) * 64 + v then 8 else Q i) → ∃ w' Q', fM_resetWeights_2 fuel w 18 (nI g) (nI p) (nI v) = some w' ∧ w'[21]? = some (.inl (768, Q')) ∧ (∀ i, Q' i = if (6 * g + p) * 64 ≤ i ∧ i < (6 * g + p) * 64 + 64 then 8 else Q i) ∧ ∀ j, j ≠ 21 → w'[j]? = w[j]? := by
    intro k
    induction k with
    | zero =>
      intro v fuel w V hv hk h18 h21 hV
      obtain ⟨m, rfl⟩ := z_suc hk
      rw [fM_resetWeights_2, if_pos (show (64 : Int32) ≤ nI v from nI_le (a := 64) (by omega) (by omega))]
      exact ⟨w, V, rfl, h21, by rw [show v = 64 by omega] at hV; exact hV, fun _ _ => rfl⟩
    | succ k ih =>
      intro v fuel w V hv hk h18 h21 hV
      obtain ⟨m, rfl⟩ := z_suc hk
      rw [fM_resetWeights_2, if_neg (show ¬ (64 : Int32) ≤ nI v from nI_ge (b := 64) (by omega) (by omega)), (z_f18 h18).2.2.2.1, Option.bind_some, show (6 : Int32) = nI 6 from rfl, pk_mul, nI_add, show (64 : Int32) = nI 64 from rfl, pk_mul, nI_add, z_pa h21 (by omega) (by omega), Option.bind_some, z_inc]
      obtain ⟨w', Q', r1, r2, r3, r4⟩ := ih (v + 1) m (w.set 21 (.inl (768, upd V ((6 * g + p) * 64 + v) 8))) (upd V ((6 * g + p) * 64 + v) 8) (by omega) (by omega) (by rw [z_else (by omega)]; exact h18) (z_self h21) (fun i => by
        by_cases c : i = (6 * g + p) * 64 + v
        · rw [c, z_upd_s, if_pos (by omega)]
        · rw [z_upd_n c, hV]
          by_cases d : (6 * g + p) * 64 ≤ i ∧ i < (6 * g + p) * 64 + v
          · rw [if_pos d, if_pos (by omega)]
          · rw [if_neg d, if_neg (by omega)])
      exact ⟨w', Q', r1, r2, r3, fun j hj => by rw [r4 j hj, z_else (Ne.symm hj)]⟩
  unfold fM_resetWeights
  exact loop 64 0 x_F w Q (by omega) (by unfold x_F; omega) h18 h21 (fun i => by rw [if_neg (by omega)])
theorem z_mclear {w : x_W} {cI pr lm : Int32} {N P Q D : Nat → Int32} {g : Nat} (k0 : Int32) (h18 : w[18]? = some (z_c18 cI pr lm)) (h19 : w[19]? = some (.inl (2, N))) (h20 : w[20]? = some (.inl (12, P))) (h21 : w[21]? = some (.inl (768, Q))) (h22 : w[22]? = some (.inl (2, D))) (hg : g < 2) : ∃ w' P' Q', fM_clear w 18 (nI g) k0 = some w' ∧ w'[19]? = some (.inl (2, upd N g k0)) ∧ w'[22]? = some (.inl (2, upd D g 0)) ∧ w'[20]? = some (.inl (12, P')) ∧ (∀ i, P' i = if 6 * g ≤ i ∧ i < 6 * g + 6 then 0 else P i) ∧ w'[21]? = some (.inl (768, Q')) ∧ (∀ i, Q' i = if 6 * g * 64 ≤ i ∧ i < (6 * g + 6) * 64 then 8 else Q i) ∧ ∀ j, j < 19 ∨ 22 < j → w'[j]? = w[j]? := by
  have loop : ∀ (k v fuel : Nat) (w : x_W) (R V : Nat → Int32), v + k = 6 → k < fuel → w[18]? = some (z_c18 cI pr lm) → w[20]? = some (.inl (12, R)) → w[21]? = some (.inl (768, V)) → (∀ i, R i = if 6 * g ≤ i ∧ i < 6 * g + v then 0 else P i) → (∀ i, V i = if 6 * g * 64 ≤ i ∧ i < (6 * g + v) * 64 then 8 else Q i) → ∃ w' P' Q', fM_clear_16 fuel w 18 (nI g) (nI v) = some w' ∧ w'[20]? = some (.inl (12, P')) ∧ (∀ i, P' i = if 6 * g ≤ i ∧ i < 6 * g + 6 then 0 else P i) ∧ w'[21]? = some (.inl (768, Q')) ∧ (∀ i, Q' i = if 6 * g * 64 ≤ i ∧ i < (6 * g + 6) * 64 then 8 else Q i) ∧ ∀ j, j ≠ 20 → j ≠ 21 → w'[j]? = w[j]? := by
    intro k
    induction k with
    | zero =>
      intro v fuel w R V hv hk h18 h20 h21 hR hV
      obtain ⟨m, rfl⟩ := z_suc hk
      rw [fM_clear_16, if_pos (show (6 : Int32) ≤ nI v from nI_le (a := 6) (by omega) (by omega))]
      rw [show v = 6 by omega] at hR hV
      exact ⟨w, R, V, rfl, h20, hR, h21, hV, fun _ _ _ => rfl⟩
    | succ k ih =>
      intro v fuel w R V hv hk h18 h20 h21 hR hV
      obtain ⟨m, rfl⟩ := z_suc hk
      rw [fM_clear_16, if_neg (show ¬ (6 : Int32) ≤ nI v from nI_ge (b := 6) (by omega) (by omega)), (z_f18 h18).2.2.1, Option.bind_some, show (6 : Int32) = nI 6 from rfl, pk_mul, nI_add, z_pa h20 (by omega) (by omega), Option.bind_some]
      have a18 : (w.set 20 (.inl (12, upd R (6 * g + v) 0)))[18]? = some (z_c18 cI pr lm) := by rw [z_else (by omega)]; exact h18
      have a21 : (w.set 20 (.inl (12, upd R (6 * g + v) 0)))[21]? = some (.inl (768, V)) := by rw [z_else (by omega)]; exact h21
      obtain ⟨w1, Q1, r1, r2, r3, r4⟩ := z_mreset a18 a21 hg (show v < 6 by omega)
      rw [(z_f18 a18).1, Option.bind_some, r1, Option.bind_some, z_inc]
      obtain ⟨w', P', Q', s1, s2, s3, s4, s5, s6⟩ := ih (v + 1) m w1 (upd R (6 * g + v) 0) Q1 (by omega) (by omega) (by rw [r4 18 (by omega)]; exact a18) (by rw [r4 20 (by omega)]; exact z_self h20) r2 (fun i => by
        by_cases c : i = 6 * g + v
        · rw [c, z_upd_s, if_pos (by omega)]
        · rw [z_upd_n c, hR]
          by_cases d : 6 * g ≤ i ∧ i < 6 * g + v
          · rw [if_pos d, if_pos (by omega)]
          · rw [if_neg d, if_neg (by omega)]) (fun i => by
        rw [r3, hV]
        by_cases c : (6 * g + v) * 64 ≤ i ∧ i < (6 * g + v) * 64 + 64
        · rw [if_pos c, if_pos (by omega)]
        · rw [if_neg c]
          by_cases d : 6 * g * 64 ≤ i ∧ i < (6 * g + v) * 64
          · rw [if_pos d, if_pos (by omega)]
          · rw [if_neg d, if_neg (by omega)])
      exact ⟨w', P', Q', s1, s2, s3, s4, s5, fun j h1 h2 => by rw [s6 j h1 h2, r4 j h2, z_else (Ne.symm h1)]⟩
  unfold fM_clear
  rw [(z_f18 h18).2.1, Option.bind_some, z_pa h19 hg (by omega), Option.bind_some]
  have a18 : (w.set 19 (.inl (2, upd N g k0)))[18]? = some (z_c18 cI pr lm) := by rw [z_else (by omega)]; exact h18
  have a22 : (w.set 19 (.inl (2, upd N g k0)))[22]? = some (.inl (2, D)) := by rw [z_else (by omega)]; exact h22
  rw [(z_f18 a18).2.2.2.2, Option.bind_some, z_pa a22 hg (by omega), Option.bind_some]
  have e : ∀ j, j ≠ 19 → j ≠ 22 → ((w.set 19 (.inl (2, upd N g k0))).set 22 (.inl (2, upd D g 0)))[j]? = w[j]? := fun j h1 h2 => by rw [z_else (Ne.symm h2), z_else (Ne.symm h1)]
  obtain ⟨w', P', Q', s1, s2, s3, s4, s5, s6⟩ := loop 6 0 x_F ((w.set 19 (.inl (2, upd N g k0))).set 22 (.inl (2, upd D g 0))) P Q (by omega) (by unfold x_F; omega) (by rw [e 18 (by omega) (by omega)]; exact h18) (by rw [e 20 (by omega) (by omega)]; exact h20) (by rw [e 21 (by omega) (by omega)]; exact h21) (fun i => by rw [if_neg (by omega)]) (fun i => by rw [if_neg (by omega)])
  refine ⟨w', P', Q', s1, ?_, ?_, s2, s3, s4, s5, fun j hj => by rw [s6 j (by omega) (by omega), e j (by omega) (by omega)]⟩
  · rw [s6 19 (by omega) (by omega), z_else (by omega)]; exact z_self h19
  · rw [s6 22 (by omega) (by omega)]; exact z_self a22
section
variable {w : x_W} {n n' h h' : Nat} {f f' : Nat → Nat} {t t' : Nat → Nat → Nat}
theorem z_isIn16 {k : Nat} (h1 : 1 ≤ k) (h6 : k ≤ 6) : fM_isIn (nI k) 1 6 = 1 := by
  obtain rfl | rfl | rfl | rfl | rfl | rfl : k = 1 ∨ k = 2 ∨ k = 3 ∨ k = 4 ∨ k = 5 ∨ k = 6 := by omega
  all_goals decide
theorem z_isIn160 {x : Int32} (hx : ¬ ∃ k, 1 ≤ k ∧ k ≤ 6 ∧ x = nI k) : fM_isIn x 1 6 = 0 := by
  unfold fM_isIn
  by_cases c : x < (1 : Int32)
  · rw [if_pos c]
  · rw [if_neg c]
    have p0 : ¬ x < 0 := fun q => c (by
      rw [Int32.lt_iff_toInt_lt] at q ⊢
      rw [show (0 : Int32).toInt = 0 from rfl] at q
      rw [show (1 : Int32).toInt = 1 from rfl]
      omega)
    obtain ⟨j, j1, rfl⟩ := nI_of p0
    have j2 : 1 ≤ j := by
      rcases Nat.lt_or_ge j 1 with q | q
      · exact absurd (nI_lt q (by omega)) c
      · exact q
    have j3 : 6 < j := by
      rcases Nat.lt_or_ge 6 j with q | q
      · exact q
      · exact absurd ⟨j, j2, q, rfl⟩ hx
    rw [if_pos (show (6 : Int32) < nI j from nI_lt (a := 6) j3 j1)]
theorem z_Mbegin (M : z_ms w n f t h n' f' t' h') {k : Nat} (h1 : 1 ≤ k) (h6 : k ≤ 6) : ∃ w', fM_begin w 18 (nI k) = some (nI n, w') ∧ z_ms w' k (fun _ => 0) (fun _ _ => 8) 0 n' f' t' h' ∧ ∀ j, j < 18 → w'[j]? = w[j]? := by
  obtain ⟨m0, m1, -⟩ := z_X0 (z_ms_mx M)
  obtain ⟨o, o', ⟨⟨cI, pr, lm, r1⟩, r2, r3, r4, r5, r6⟩, ⟨N, d1, d2, d3⟩, ⟨P, d4, d5, d6⟩, ⟨Q, d7, d8, d9⟩, D, e1, e2, e3⟩ := M
  obtain ⟨w', P', Q', s1, s2, s3, s4, s5, s6, s7, e⟩ := z_mclear (g := 0) (nI k) r1 d1 d4 d7 e1 (by omega)
  refine ⟨w', ?_, ⟨⟨h1, h6, fun p _ => Nat.two_pow_pos p, fun _ _ => show 8 ≤ 16 by omega, Nat.two_pow_pos k⟩, o', ⟨⟨cI, pr, lm, by rw [e 18 (by omega)]; exact r1⟩, by rw [e 23 (by omega)]; exact r2, by rw [e 24 (by omega)]; exact r3, by rw [e 25 (by omega)]; exact r4, by rw [e 26 (by omega)]; exact r5, by rw [e 27 (by omega)]; exact r6⟩, ⟨_, s2, z_upd_s, by rw [z_upd_n (by omega)]; exact d3⟩, ⟨P', s4, ?_, ?_⟩, ⟨Q', s6, ?_, ?_⟩, ⟨_, s3, z_upd_s, by rw [z_upd_n (by omega)]; exact e3⟩⟩, fun j hj => e j (by omega)⟩
  · unfold fM_begin
    rw [z_isIn16 h1 h6, if_neg (by decide), m0, Option.bind_some, m1, Option.bind_some, show (0 : Int32) = nI 0 from rfl, s1, Option.bind_some]
  · intro p hp
    rw [s5, if_pos (by omega)]; rfl
  · intro p hp
    have := o'.2.1
    rw [s5, if_neg (by omega)]; exact d6 p hp
  · intro p hp v hv _
    rw [s7, if_pos (by omega)]; rfl
  · intro p hp v hv hs
    rw [s7, if_neg (by omega)]; exact d9 p hp v hv hs
theorem z_Mbegin0 {x : Int32} (hx : ¬ ∃ k, 1 ≤ k ∧ k ≤ 6 ∧ x = nI k) : fM_begin w 18 x = some (-2, w) := by
  unfold fM_begin
  rw [z_isIn160 hx, if_pos rfl]
theorem z_Mparents (M : z_ms w n f t h n' f' t' h') {p s : Nat} (hp : p < n) (hs : s < 2 ^ p) : ∃ w', fM_parents w 18 (nI p) (nI s) = some (nI (f p), w') ∧ z_ms w' n (z_f1 f p s) (z_t1 t p) h n' f' t' h' ∧ ∀ j, j < 18 → w'[j]? = w[j]? := by
  obtain ⟨m0, m1, -⟩ := z_X0 (z_ms_mx M)
  have mp := z_mPl (z_ms_mx M) hp
  have hn := M.1.2.1
  have h64 : 2 ^ p ≤ 64 := z_pow (show p ≤ 6 by omega)
  obtain ⟨o, o', ⟨⟨cI, pr, lm, r1⟩, r2, r3, r4, r5, r6⟩, ⟨N, d1, d2, d3⟩, ⟨P, d4, d5, d6⟩, ⟨Q, d7, d8, d9⟩, D, e1, e2, e3⟩ := M
  have a18 : (w.set 20 (.inl (12, upd P p (nI s))))[18]? = some (z_c18 cI pr lm) := by rw [z_else (by omega)]; exact r1
  have a21 : (w.set 20 (.inl (12, upd P p (nI s))))[21]? = some (.inl (768, Q)) := by rw [z_else (by omega)]; exact d7
  obtain ⟨w', Q', s1, s2, s3, s4⟩ := z_mreset (g := 0) a18 a21 (by omega) (show p < 6 by omega)
  have e : ∀ j, j ≠ 20 → j ≠ 21 → w'[j]? = w[j]? := fun j h1 h2 => by rw [s4 j h2, z_else (Ne.symm h1)]
  refine ⟨w', ?_, ⟨⟨o.1, hn, ?_, ?_, o.2.2.2.2⟩, o', ⟨⟨cI, pr, lm, by rw [e 18 (by omega) (by omega)]; exact r1⟩, by rw [e 23 (by omega) (by omega)]; exact r2, by rw [e 24 (by omega) (by omega)]; exact r3, by rw [e 25 (by omega) (by omega)]; exact r4, by rw [e 26 (by omega) (by omega)]; exact r5, by rw [e 27 (by omega) (by omega)]; exact r6⟩, ⟨N, by rw [e 19 (by omega) (by omega)]; exact d1, d2, d3⟩, ⟨_, by rw [s4 20 (by omega)]; exact z_self d4, ?_, ?_⟩, ⟨Q', s2, ?_, ?_⟩, ⟨D, by rw [e 22 (by omega) (by omega)]; exact e1, e2, e3⟩⟩, fun j hj => e j (by omega) (by omega)⟩
  · unfold fM_parents
    rw [m0, Option.bind_some, mp, Option.bind_some, if_neg (by decide), z_bit p (by omega), show (1 : Int32) = nI 1 from rfl, pk_sub (Nat.two_pow_pos p), z_isIn1 (by omega) (by omega), if_neg (by decide), (z_f18 r1).2.2.1, Option.bind_some, z_ai d4 (by omega) (by omega), Option.bind_some, z_pa d4 (by omega) (by omega), Option.bind_some, (z_f18 a18).1, Option.bind_some, show (0 : Int32) = nI 0 from rfl, s1, Option.bind_some, d5 p hp]
  · intro q hq
    unfold z_f1
    by_cases c : q = p
    · rw [if_pos c, c]; exact hs
    · rw [if_neg c]; exact o.2.2.1 q hq
  · intro q v
    unfold z_t1
    split
    · omega
    · exact o.2.2.2.1 q v
  · intro q hq
    unfold z_f1
    by_cases c : q = p
    · rw [if_pos c, c, z_upd_s]
    · rw [if_neg c, z_upd_n c]; exact d5 q hq
  · intro q hq
    rw [z_upd_n (by omega)]; exact d6 q hq
  · intro q hq v hv hvs
    rw [s3]
    unfold z_t1
    by_cases c : q = p
    · rw [if_pos c, if_pos (by omega)]; rfl
    · rw [if_neg c, if_neg (by omega)]
      unfold z_f1 at hvs
      rw [if_neg c] at hvs
      exact d8 q hq v hv hvs
  · intro q hq v hv hvs
    rw [s3, if_neg (by omega)]; exact d9 q hq v hv hvs
theorem z_Mparents0 (M : z_ms w n f t h n' f' t' h') {x y : Int32} (hx : ¬ ∃ p s, p < n ∧ s < 2 ^ p ∧ x = nI p ∧ y = nI s) : fM_parents w 18 x y = some (-2, w) := by
  obtain ⟨m0, m1, -⟩ := z_X0 (z_ms_mx M)
  have hn := M.1.2.1
  unfold fM_parents
  rw [m0, Option.bind_some]
  by_cases c : ∃ k, k < n ∧ x = nI k
  · obtain ⟨p, hp, rfl⟩ := c
    have h64 : 2 ^ p ≤ 64 := z_pow (show p ≤ 6 by omega)
    have hpp := Nat.two_pow_pos p
    rw [z_mPl (z_ms_mx M) hp, Option.bind_some, if_neg (by decide), z_bit p (by omega), show (1 : Int32) = nI 1 from rfl, pk_sub (Nat.two_pow_pos p), z_isIn0 (by omega) (fun ⟨s, q1, q2⟩ => hx ⟨p, s, hp, by omega, rfl, q2⟩), if_pos rfl]
  · rw [z_mPl0 (z_ms_mx M) c, Option.bind_some, if_pos rfl]
theorem z_Mweight (M : z_ms w n f t h n' f' t' h') {p v x : Nat} (hp : p < n) (hv : v &&& f p = v) (hx : x ≤ 16) : ∃ w', fM_weight w 18 (nI p) (nI v) (nI x) = some (nI (t p v), w') ∧ z_ms w' n f (z_t2 t p v x) h n' f' t' h' ∧ ∀ j, j < 18 → w'[j]? = w[j]? := by
  obtain ⟨m0, m1, -⟩ := z_X0 (z_ms_mx M)
  have mp := z_mPl (z_ms_mx M) hp
  have hn := M.1.2.1
  have hfp := M.1.2.2.1 p hp
  have hf64 : f p < 64 := z_h64 (show p ≤ 6 by omega) hfp
  have hvf : v ≤ f p := by rw [← hv]; exact Nat.and_le_right
  have hvn : v < 2 ^ n := Nat.lt_of_le_of_lt hvf (Nat.lt_trans hfp (z_p2 hp))
  have ms := z_mSet (z_ms_mx M) hvn
  have hw := z_within1 (show v < 64 by omega) hf64 hv
  unfold fA_isWithin at hw
  have c' : nI v &&& (nI (f p) ^^^ (-1)) = 0 := by
    by_cases q : nI v &&& (nI (f p) ^^^ (-1)) = 0
    · exact q
    · rw [if_neg q] at hw; exact absurd hw (by decide)
  obtain ⟨o, o', ⟨⟨cI, pr, lm, r1⟩, r2, r3, r4, r5, r6⟩, ⟨N, d1, d2, d3⟩, ⟨P, d4, d5, d6⟩, ⟨Q, d7, d8, d9⟩, D, e1, e2, e3⟩ := M
  have e : ∀ j, j ≠ 21 → (w.set 21 (.inl (768, upd Q (p * 64 + v) (nI x))))[j]? = w[j]? := fun j h1 => z_else (Ne.symm h1)
  refine ⟨w.set 21 (.inl (768, upd Q (p * 64 + v) (nI x))), ?_, ⟨⟨o.1, hn, o.2.2.1, ?_, o.2.2.2.2⟩, o', ⟨⟨cI, pr, lm, by rw [e 18 (by omega)]; exact r1⟩, by rw [e 23 (by omega)]; exact r2, by rw [e 24 (by omega)]; exact r3, by rw [e 25 (by omega)]; exact r4, by rw [e 26 (by omega)]; exact r5, by rw [e 27 (by omega)]; exact r6⟩, ⟨N, by rw [e 19 (by omega)]; exact d1, d2, d3⟩, ⟨P, by rw [e 20 (by omega)]; exact d4, d5, d6⟩, ⟨_, z_self d7, ?_, ?_⟩, ⟨D, by rw [e 22 (by omega)]; exact e1, e2, e3⟩⟩, fun j hj => e j (by omega)⟩
  · unfold fM_weight
    rw [m0, Option.bind_some, mp, Option.bind_some, if_neg (by decide), ms, Option.bind_some, if_neg (by decide), (z_f18 r1).2.2.1, Option.bind_some, z_ai d4 (by omega) (by omega), Option.bind_some, d5 p hp, if_pos c', show (16 : Int32) = nI 16 from rfl, z_isIn1 hx (by omega), if_neg (by decide), (z_f18 r1).2.2.2.1, Option.bind_some, show (64 : Int32) = nI 64 from rfl, pk_mul, nI_add, z_ai d7 (by omega) (by omega), Option.bind_some, z_pa d7 (by omega) (by omega), Option.bind_some, d8 p hp v (by omega) hv]
  · intro q u
    unfold z_t2
    split
    · exact hx
    · exact o.2.2.2.1 q u
  · intro q hq u hu hus
    unfold z_t2
    by_cases c : q = p ∧ u = v
    · rw [if_pos c, c.1, c.2, z_upd_s]
    · rw [if_neg c, z_upd_n (by omega)]
      exact d8 q hq u hu hus
  · intro q hq u hu hus
    rw [z_upd_n (by omega)]; exact d9 q hq u hu hus
theorem z_Mweight0 (M : z_ms w n f t h n' f' t' h') {a y z : Int32} (hx : ¬ ∃ p v x, p < n ∧ v &&& f p = v ∧ x ≤ 16 ∧ a = nI p ∧ y = nI v ∧ z = nI x) : fM_weight w 18 a y z = some (-2, w) := by
  obtain ⟨m0, m1, -⟩ := z_X0 (z_ms_mx M)
  have hn := M.1.2.1
  have X := z_ms_mx M
  obtain ⟨o, o', ⟨⟨cI, pr, lm, r1⟩, r2, r3, r4, r5, r6⟩, ⟨N, d1, d2, d3⟩, ⟨P, d4, d5, d6⟩, ⟨Q, d7, d8, d9⟩, D, e1, e2, e3⟩ := M
  unfold fM_weight
  rw [m0, Option.bind_some]
  by_cases c : ∃ k, k < n ∧ a = nI k
  · obtain ⟨p, hp, rfl⟩ := c
    have hfp := o.2.2.1 p hp
    have hf64 : f p < 64 := z_h64 (show p ≤ 6 by omega) hfp
    rw [z_mPl X hp, Option.bind_some, if_neg (by decide)]
    by_cases c2 : ∃ s, s < 2 ^ n ∧ y = nI s
    · obtain ⟨v, hv, rfl⟩ := c2
      have l1 := z_h64 hn hv
      rw [z_mSet X hv, Option.bind_some, if_neg (by decide), (z_f18 r1).2.2.1, Option.bind_some, z_ai d4 (by omega) (by omega), Option.bind_some, d5 p hp]
      by_cases c3 : nI v &&& (nI (f p) ^^^ (-1)) = 0
      · rw [if_pos c3]
        have hvf : v &&& f p = v := by
          have hw := z_within_iff l1 hf64
          unfold fA_isWithin at hw
          rw [if_pos c3] at hw
          by_cases q : v &&& f p = v
          · exact q
          · rw [if_neg q] at hw; exact absurd hw (by decide)
        rw [show (16 : Int32) = nI 16 from rfl, z_isIn0 (by omega) (fun ⟨x, q1, q2⟩ => hx ⟨p, v, x, hp, hvf, by omega, rfl, rfl, q2⟩), if_pos rfl]
      · rw [if_neg c3]
    · rw [z_mSet0 X c2, Option.bind_some, if_pos rfl]
  · rw [z_mPl0 X c, Option.bind_some, if_pos rfl]
theorem z_Mhide (M : z_ms w n f t h n' f' t' h') {p : Nat} (hp : p < n) (b : Int32) : ∃ w', fM_hide w 18 (nI p) b = some (if h.testBit p = true then 1 else 0, w') ∧ z_ms w' n f t (z_hd h p b) n' f' t' h' ∧ ∀ j, j < 18 → w'[j]? = w[j]? := by
  obtain ⟨m0, m1, m2, m3⟩ := z_X0 (z_ms_mx M)
  have mp := z_mPl (z_ms_mx M) hp
  have hn := M.1.2.1
  have hh := z_h64 hn M.1.2.2.2.2
  have hp2 : 2 ^ p < 64 := z_h64 hn (z_p2 hp)
  obtain ⟨o, o', ⟨⟨cI, pr, lm, r1⟩, r2, r3, r4, r5, r6⟩, ⟨N, d1, d2, d3⟩, ⟨P, d4, d5, d6⟩, ⟨Q, d7, d8, d9⟩, D, e1, e2, e3⟩ := M
  have e : ∀ j, j ≠ 22 → (w.set 22 (.inl (2, upd D 0 (nI (z_hd h p b)))))[j]? = w[j]? := fun j h1 => z_else (Ne.symm h1)
  refine ⟨w.set 22 (.inl (2, upd D 0 (nI (z_hd h p b)))), ?_, ⟨⟨o.1, hn, o.2.2.1, o.2.2.2.1, z_hd_lt o.2.2.2.2 hp⟩, o', ⟨⟨cI, pr, lm, by rw [e 18 (by omega)]; exact r1⟩, by rw [e 23 (by omega)]; exact r2, by rw [e 24 (by omega)]; exact r3, by rw [e 25 (by omega)]; exact r4, by rw [e 26 (by omega)]; exact r5, by rw [e 27 (by omega)]; exact r6⟩, ⟨N, by rw [e 19 (by omega)]; exact d1, d2, d3⟩, ⟨P, by rw [e 20 (by omega)]; exact d4, d5, d6⟩, ⟨Q, by rw [e 21 (by omega)]; exact d7, d8, d9⟩, ⟨_, z_self e1, z_upd_s, by rw [z_upd_n (by omega)]; exact e3⟩⟩, fun j hj => e j (by omega)⟩
  unfold fM_hide
  rw [m0, Option.bind_some, mp, Option.bind_some, if_neg (by decide), m2, Option.bind_some, m3, Option.bind_some, z_bit p (by omega), z_not h hh _ hp2, z_or, z_sbe hh (by omega)]
  have z0 : ∀ x : Int32, x_pa w 22 0 x = some (w.set 22 (.inl (2, upd D 0 x))) := fun x => z_pa (j := 0) e1 (by omega) (by omega)
  rw [z0, z0, Option.bind_some, Option.bind_some]
  have a : nI (z_bt h p) = if h.testBit p = true then 1 else 0 := by unfold z_bt; split <;> rfl
  unfold z_hd
  rw [a]
  by_cases c : b = 0
  · rw [if_pos c, if_pos c]
  · rw [if_neg c, if_neg c]
theorem z_Mhide0 (M : z_ms w n f t h n' f' t' h') {x : Int32} (b : Int32) (hx : ¬ ∃ k, k < n ∧ x = nI k) : fM_hide w 18 x b = some (-2, w) := by
  obtain ⟨m0, m1, -⟩ := z_X0 (z_ms_mx M)
  unfold fM_hide
  rw [m0, Option.bind_some, z_mPl0 (z_ms_mx M) hx, Option.bind_some, if_pos rfl]
end
