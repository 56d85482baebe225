/-! the reference's count and of, whole; both sides together -/
def z_cnL (f : Nat → Nat) (n h k : Nat) : Nat := if k = 3 then z_cnt f n else if k = 4 then z_sum (fun p => z_pc (z_su f n p)) n else z_cn f n h k
def z_onL (f : Nat → Nat) (n h p k : Nat) : Nat := if k = 5 then z_mk (fun q => (z_su f n q).testBit p) n else z_on f n h p k
theorem z_mk_cg {P P' : Nat → Bool} : ∀ n, (∀ q, q < n → P q = P' q) → z_mk P n = z_mk P' n
  | 0, _ => rfl
  | n + 1, h => by rw [z_mk, z_mk, z_mk_cg n (fun q hq => h q (by omega)), h n (by omega)]
section
variable {w : x_W} {n n' h h' : Nat} {f f' : Nat → Nat} {t t' : Nat → Nat → Nat} {cI pr lm : Int32} {PA PB FR SU : Nat → Int32}
theorem z_M117 (Q : z_q w n f cI pr lm PA PB FR SU) (hn : n ≤ 6) (hf : ∀ p, p < n → f p < 64) (hS : ∀ p, p < n → SU p = nI (z_su f n p)) : fM_count_117 x_F w 18 0 0 = some (nI (z_sum (fun p => z_pc (z_su f n p)) n), w) := by
  have loop : ∀ k p fuel, p + k = n → k < fuel → fM_count_117 fuel w 18 (nI (z_sum (fun p => z_pc (z_su f n p)) p)) (nI p) = some (nI (z_sum (fun p => z_pc (z_su f n p)) n), w) := by
    intro k
    induction k with
    | zero =>
      intro p fuel hp hk
      obtain ⟨m, rfl⟩ := z_suc hk
      rw [fM_count_117, z_q_ob Q, Option.bind_some, z_q_n Q, Option.bind_some, if_pos (nI_le (show n ≤ p by omega) (by omega)), show p = n by omega]
    | succ k ih =>
      intro p fuel hp hk
      obtain ⟨m, rfl⟩ := z_suc hk
      have hlt : p < n := by omega
      rw [fM_count_117, z_q_ob Q, Option.bind_some, z_q_n Q, Option.bind_some, if_neg (nI_ge hlt (by omega)), z_q_10 Q, Option.bind_some, z_ai Q.2.2.2.2.2.2 (show p < 6 by omega) (by omega), Option.bind_some, hS p hlt, z_ones (Nat.lt_of_le_of_lt z_su_le (hf p hlt)), Option.bind_some, nI_add, z_inc]
      exact ih (p + 1) m (by omega) (by omega)
  exact loop n 0 x_F (by omega) (by unfold x_F; omega)
theorem z_MsureFrom (Q : z_q w n f cI pr lm PA PB FR SU) (hn : n ≤ 6) (hf : ∀ p, p < n → f p < 64) (hS : ∀ p, p < n → SU p = nI (z_su f n p)) {p : Nat} (hp : p < n) : fM_sureFrom w 18 (nI p) = some (nI (z_mk (fun q => (z_su f n q).testBit p) n)) := by
  have loop : ∀ k q fuel, q + k = n → k < fuel → fM_sureFrom_4 w fuel 18 (nI p) (nI (z_mk (fun q => (z_su f n q).testBit p) q)) (nI q) = some (nI (z_mk (fun q => (z_su f n q).testBit p) n)) := by
    intro k
    induction k with
    | zero =>
      intro q fuel hq hk
      obtain ⟨m, rfl⟩ := z_suc hk
      rw [fM_sureFrom_4, z_q_ob Q, Option.bind_some, z_q_n Q, Option.bind_some, if_pos (nI_le (show n ≤ q by omega) (by omega)), show q = n by omega]
    | succ k ih =>
      intro q fuel hq hk
      obtain ⟨m, rfl⟩ := z_suc hk
      have hlt : q < n := by omega
      have i1 := ih (q + 1) m (by omega) (by omega)
      rw [fM_sureFrom_4, z_q_ob Q, Option.bind_some, z_q_n Q, Option.bind_some, if_neg (nI_ge hlt (by omega)), z_q_10 Q, Option.bind_some, z_ai Q.2.2.2.2.2.2 (show q < 6 by omega) (by omega), Option.bind_some, hS q hlt, z_hasM _ (Nat.lt_of_le_of_lt z_su_le (hf q hlt)) _ (show p < 6 by omega), z_bit q (by omega), z_or, z_inc]
      rw [z_mk] at i1
      by_cases c : (z_su f n q).testBit p = true
      · rw [if_pos c] at i1
        rw [if_pos c, if_neg (by decide)]
        exact i1
      · rw [if_neg c, Nat.or_zero] at i1
        rw [if_neg c, if_pos rfl]
        exact i1
  exact loop n 0 x_F (by omega) (by unfold x_F; omega)
theorem z_Mcount (M : z_ms w n f t h n' f' t' h') {k : Nat} (hk : k < 7) : ∃ w', fM_count w 18 (nI k) = some (nI (z_cnL f n h k), w') ∧ z_km w w' := by
  have hn := M.1.2.1
  have hf : ∀ p, p < n → f p < 64 := fun p hp => Nat.lt_of_lt_of_le (M.1.2.2.1 p hp) (z_pow (by omega))
  obtain ⟨w1, a1, a2, a3, a4⟩ := z_cut0 (z_ms_mx M)
  have K1 : z_km w w1 := z_kc_km M ⟨a2, a4⟩
  have M1 := z_km_ms K1 M
  have o1 := (z_X0 a2).1
  unfold fM_count
  rw [show fM_isIn (nI k) 0 6 = 1 from z_isIn1 (m := 6) (by omega) (by omega), if_neg (by decide), a1, Option.bind_some]
  obtain rfl | rfl | rfl | rfl | rfl | rfl | rfl : k = 0 ∨ k = 1 ∨ k = 2 ∨ k = 3 ∨ k = 4 ∨ k = 5 ∨ k = 6 := by omega
  · rw [if_pos (show nI 0 = (0 : Int32) from rfl), o1, Option.bind_some, (z_X0 a2).2.1, Option.bind_some]
    exact ⟨w1, rfl, K1⟩
  · rw [if_neg (by decide), if_pos (show nI 1 = (1 : Int32) from rfl), z_Mcount1 a2]
    exact ⟨w1, rfl, K1⟩
  · rw [if_neg (by decide), if_neg (by decide), if_pos (show nI 2 = (2 : Int32) from rfl), (z_X0 a2).2.2.1, Option.bind_some, (z_X0 a2).2.2.2, Option.bind_some]
    exact ⟨w1, rfl, K1⟩
  · obtain ⟨w2, cI, pr, PA, PB, FR, SU, b1, b2, b3, b4⟩ := z_Mfind M1
    rw [if_neg (by decide), if_neg (by decide), if_neg (by decide), if_pos (show nI 3 = (3 : Int32) from rfl), o1, Option.bind_some, b1, Option.bind_some, z_q_11 b3, Option.bind_some]
    exact ⟨w2, rfl, z_km_t K1 b2⟩
  · obtain ⟨w2, cI, pr, PA, PB, FR, SU, b1, b2, b3, b4⟩ := z_Mfind M1
    rw [if_neg (by decide), if_neg (by decide), if_neg (by decide), if_neg (by decide), if_pos (show nI 4 = (4 : Int32) from rfl), o1, Option.bind_some, b1, Option.bind_some, z_M117 b3 hn hf b4]
    exact ⟨w2, rfl, z_km_t K1 b2⟩
  · obtain ⟨w2, b1, b2⟩ := z_Mclumps a2
    rw [if_neg (by decide), if_neg (by decide), if_neg (by decide), if_neg (by decide), if_neg (by decide), if_pos (show nI 5 = (5 : Int32) from rfl), o1, Option.bind_some, b1, Option.bind_some]
    exact ⟨w2, rfl, z_km_t K1 (z_kc_km M1 b2)⟩
  · obtain ⟨w2, b1, b2⟩ := z_Mpairs a2 a3
    rw [if_neg (by decide), if_neg (by decide), if_neg (by decide), if_neg (by decide), if_neg (by decide), if_neg (by decide), o1, Option.bind_some, b1, Option.bind_some]
    exact ⟨w2, rfl, z_km_t K1 (z_k23_km M1 b2)⟩
theorem z_Mcount0 {x : Int32} (hx : ¬ ∃ k, k < 7 ∧ x = nI k) : fM_count w 18 x = some (-2, w) := by
  unfold fM_count
  rw [show fM_isIn x 0 6 = 0 from z_isIn0 (m := 6) (by omega) hx, if_pos rfl]
theorem z_Mof (M : z_ms w n f t h n' f' t' h') {p k : Nat} (hp : p < n) (hk : k < 6) : ∃ w', fM_of w 18 (nI p) (nI k) = some (nI (z_onL f n h p k), w') ∧ z_km w w' := by
  have hn := M.1.2.1
  have hl := M.1.2.2.1
  have hf : ∀ p, p < n → f p < 64 := fun p hp => Nat.lt_of_lt_of_le (hl p hp) (z_pow (by omega))
  obtain ⟨w1, a1, a2, a3, a4⟩ := z_cut0 (z_ms_mx M)
  have K1 : z_km w w1 := z_kc_km M ⟨a2, a4⟩
  have M1 := z_km_ms K1 M
  have o1 := (z_X0 a2).1
  have e0 : ∀ q, q < n → z_ct f 0 q = f q := fun q hq => z_ct0 hn hl hq
  unfold fM_of
  rw [z_ms_ob M, Option.bind_some, z_mPl (z_ms_mx M) hp, Option.bind_some, if_neg (by decide), show fM_isIn (nI k) 0 5 = 1 from z_isIn1 (m := 5) (by omega) (by omega), if_neg (by decide), a1, Option.bind_some]
  obtain rfl | rfl | rfl | rfl | rfl | rfl : k = 0 ∨ k = 1 ∨ k = 2 ∨ k = 3 ∨ k = 4 ∨ k = 5 := by omega
  · rw [if_pos (show nI 0 = (0 : Int32) from rfl), (z_M0 a3).2.2.2.2.1, Option.bind_some, (z_M0 a3).2.2.2.2.2.2.2.2 p hp, Option.bind_some]
    exact ⟨w1, rfl, K1⟩
  · rw [if_neg (by decide), if_pos (show nI 1 = (1 : Int32) from rfl), o1, Option.bind_some, z_Mch a3 hp, Option.bind_some]
    refine ⟨w1, ?_, K1⟩
    rw [show z_ch (z_ct f 0) n p = z_onL f n h p 1 from z_mk_cg n (fun q hq => by rw [e0 q hq])]
  · rw [if_neg (by decide), if_neg (by decide), if_pos (show nI 2 = (2 : Int32) from rfl), o1, Option.bind_some, z_Mafter a3 hp, Option.bind_some]
    refine ⟨w1, ?_, K1⟩
    rw [show z_rc (z_ct f 0) 63 p n = z_onL f n h p 2 from z_rc_congr n e0]
  · rw [if_neg (by decide), if_neg (by decide), if_neg (by decide), if_pos (show nI 3 = (3 : Int32) from rfl), o1, Option.bind_some, z_Mbefore a2 a3 hp, Option.bind_some]
    exact ⟨w1, rfl, K1⟩
  · obtain ⟨w2, b1, b2⟩ := z_Mclump a2 hp
    rw [if_neg (by decide), if_neg (by decide), if_neg (by decide), if_neg (by decide), if_pos (show nI 4 = (4 : Int32) from rfl), o1, Option.bind_some, b1, Option.bind_some]
    exact ⟨w2, rfl, z_km_t K1 (z_kc_km M1 b2)⟩
  · obtain ⟨w2, cI, pr, PA, PB, FR, SU, b1, b2, b3, b4⟩ := z_Mfind M1
    rw [if_neg (by decide), if_neg (by decide), if_neg (by decide), if_neg (by decide), if_neg (by decide), o1, Option.bind_some, b1, Option.bind_some, z_q_ob b3, Option.bind_some, z_MsureFrom b3 hn hf b4 hp, Option.bind_some]
    exact ⟨w2, rfl, z_km_t K1 b2⟩
theorem z_Mof0 (M : z_ms w n f t h n' f' t' h') {x y : Int32} (hx : ¬ ∃ p k, p < n ∧ k < 6 ∧ x = nI p ∧ y = nI k) : fM_of w 18 x y = some (-2, w) := by
  unfold fM_of
  rw [z_ms_ob M, Option.bind_some]
  by_cases c : ∃ p, p < n ∧ x = nI p
  · obtain ⟨p, hp, rfl⟩ := c
    rw [z_mPl (z_ms_mx M) hp, Option.bind_some, if_neg (by decide), show fM_isIn y 0 5 = 0 from z_isIn0 (m := 5) (by omega) (fun ⟨k, hk, e⟩ => hx ⟨p, k, hp, hk, rfl, e⟩), if_pos rfl]
  · rw [z_mPl0 (z_ms_mx M) c, Option.bind_some, if_pos rfl]
theorem z_Cof0 (C : z_cs w n f t h n' f' t' h') {x y : Int32} (hx : ¬ ∃ p k, p < n ∧ k < 6 ∧ x = nI p ∧ y = nI k) : fA_of w 0 x y = some (-2, w) := by
  obtain ⟨g, A, G, G', S⟩ := C
  unfold fA_of
  rw [(z_A0 A).1, Option.bind_some]
  by_cases c : ∃ p, p < n ∧ x = nI p
  · obtain ⟨p, hp, rfl⟩ := c
    have ne : ∀ k, k < 6 → ¬ y = nI k := fun k hk e => hx ⟨p, k, hp, hk, rfl, e⟩
    rw [z_isPl A G hp, Option.bind_some, if_neg (by decide), if_neg (show ¬ y = 0 from ne 0 (by omega)), if_neg (show ¬ y = 1 from ne 1 (by omega)), if_neg (show ¬ y = 2 from ne 2 (by omega)), if_neg (show ¬ y = 3 from ne 3 (by omega)), if_neg (show ¬ y = 4 from ne 4 (by omega)), if_neg (show ¬ y = 5 from ne 5 (by omega))]
  · rw [z_isPl0 A G c, Option.bind_some, if_pos rfl]
theorem z_Lcount (R : z_rel w) (x : Int32) : ∃ r1 w1 r2 w2, fA_count w 0 x = some (r1, w1) ∧ x_ob w1 18 5 = some () ∧ fM_count w1 18 x = some (r2, w2) ∧ z_rel w2 ∧ (x ≠ 3 → x ≠ 4 → r1 = r2) := by
  obtain ⟨n, f, t, h, n', f', t', h', C, M⟩ := R
  by_cases c : ∃ k, k < 7 ∧ x = nI k
  · obtain ⟨k, hk, rfl⟩ := c
    obtain ⟨r, w1, a1, a2, a3⟩ := z_Ccount C hk
    have M1 := z_ms_far M (fun j hj => a2.2 j (Or.inr hj))
    obtain ⟨w2, b1, b2⟩ := z_Mcount M1 hk
    refine ⟨_, w1, _, w2, a1, z_ms_ob M1, b1, z_rel_M (z_kC_cs a2 C) M1 b2, fun e1 e2 => ?_⟩
    have h3 : k ≠ 3 := fun e => e1 (by rw [e]; rfl)
    have h4 : k ≠ 4 := fun e => e2 (by rw [e]; rfl)
    rw [a3 h3 h4, z_cnL, if_neg h3, if_neg h4]
  · exact ⟨_, w, _, w, z_Ccount0 c, z_ms_ob M, z_Mcount0 c, ⟨_, _, _, _, _, _, _, _, C, M⟩, fun _ _ => rfl⟩
theorem z_Lof (R : z_rel w) (x y : Int32) : ∃ r1 w1 r2 w2, fA_of w 0 x y = some (r1, w1) ∧ x_ob w1 18 5 = some () ∧ fM_of w1 18 x y = some (r2, w2) ∧ z_rel w2 ∧ (y ≠ 5 → r1 = r2) := by
  obtain ⟨n, f, t, h, n', f', t', h', C, M⟩ := R
  by_cases c : ∃ p k, p < n ∧ k < 6 ∧ x = nI p ∧ y = nI k
  · obtain ⟨p, k, hp, hk, rfl, rfl⟩ := c
    obtain ⟨r, w1, a1, a2, a3⟩ := z_Cof C hp hk
    have M1 := z_ms_far M (fun j hj => a2.2 j (Or.inr hj))
    obtain ⟨w2, b1, b2⟩ := z_Mof M1 hp hk
    refine ⟨_, w1, _, w2, a1, z_ms_ob M1, b1, z_rel_M (z_kC_cs a2 C) M1 b2, fun e1 => ?_⟩
    have h3 : k ≠ 5 := fun e => e1 (by rw [e]; rfl)
    rw [a3 h3, z_onL, if_neg h3]
  · exact ⟨_, w, _, w, z_Cof0 C c, z_ms_ob M, z_Mof0 M c, ⟨_, _, _, _, _, _, _, _, C, M⟩, fun _ => rfl⟩
end
