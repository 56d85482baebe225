/-! the reference's clumps -/
def z_uP (f : Nat → Nat) (n h p q : Nat) : Bool := !h.testBit q && z_bnd f n h p q n
def z_up (f : Nat → Nat) (n h G : Nat) : Nat → Nat
  | 0 => 0
  | k + 1 => z_up f n h G k ||| (if G.testBit k then z_mk (z_uP f n h k) n else 0)
section
variable {w : x_W} {n h : Nat} {f : Nat → Nat}
theorem z_up_bit {G q : Nat} : ∀ k, (z_up f n h G k).testBit q = true ↔ ∃ p, p < k ∧ G.testBit p = true ∧ q < n ∧ z_uP f n h p q = true
  | 0 => by
    rw [z_up, Nat.zero_testBit]
    constructor
    · intro e; cases e
    · rintro ⟨j, hj, -⟩; omega
  | k + 1 => by
    rw [z_up, Nat.testBit_or, Bool.or_eq_true, z_up_bit k]
    constructor
    · rintro (⟨j, hj, r⟩ | r)
      · exact ⟨j, by omega, r⟩
      · by_cases c1 : G.testBit k = true
        · rw [if_pos c1, z_mk_bit, Bool.and_eq_true, decide_eq_true_iff] at r
          exact ⟨k, by omega, c1, r.1, r.2⟩
        · rw [if_neg c1, Nat.zero_testBit] at r; cases r
    · rintro ⟨j, hj, r1, r2, r3⟩
      by_cases c : j = k
      · subst c; right; rw [if_pos r1, z_mk_bit, r3, decide_eq_true r2]; rfl
      · exact Or.inl ⟨j, by omega, r1, r2, r3⟩
theorem z_up_lt {G : Nat} : ∀ k, z_up f n h G k < 2 ^ n
  | 0 => Nat.two_pow_pos n
  | k + 1 => by
    rw [z_up]
    refine Nat.or_lt_two_pow (z_up_lt k) ?_
    split
    · exact z_mk_lt _ n
    · exact Nat.two_pow_pos n
theorem z_up_st {G : Nat} (hn : n ≤ 6) (hh : h < 64) (hG : G < 2 ^ n) (hs : ∀ p, G.testBit p = true → h.testBit p = false) : G ||| z_up f n h G n = z_st f n h G := by
  apply z_ext (n := n) (Nat.or_lt_two_pow hG (z_up_lt n)) (z_st_lt hG)
  intro q hq
  rw [Bool.eq_iff_iff, z_st_bit hn hh hG hs hq, Nat.testBit_or, Bool.or_eq_true, z_up_bit]
  constructor
  · rintro (r | ⟨p, hp, r1, r2, r3⟩)
    · exact Or.inl r
    · right
      unfold z_uP at r3
      rw [Bool.and_eq_true, Bool.not_eq_true'] at r3
      exact ⟨r3.1, p, hp, r1, r3.2⟩
  · rintro (r | ⟨r1, p, hp, r2, r3⟩)
    · exact Or.inl r
    · right
      refine ⟨p, hp, r2, hq, ?_⟩
      unfold z_uP
      rw [r1, r3]; rfl
theorem z_r43f (k21 : x_W → Nat → Int32 → Int32 → Option (Int32 × x_W)) (k31 : x_W → Nat → Int32 → Int32 → Int32 → Option (Int32 × x_W)) {G p : Nat} (X : z_mx w n f h) (hp : p < n) (hG : G < 64) (c : G.testBit p = false) : ∀ k q fuel V, q + k = n → k < fuel → fM_clumpOf_43 k21 k31 fuel w 18 V (nI G) (nI p) (nI q) = k31 w 18 V (nI G) (nI (p + 1)) := by
  obtain ⟨m0, m1, m2, m3⟩ := z_X0 X
  have hn := X.2.1
  intro k
  induction k with
  | zero =>
    intro q fuel V hq hk
    obtain ⟨m, rfl⟩ := z_suc hk
    rw [fM_clumpOf_43, m0, Option.bind_some, m1, Option.bind_some, if_pos (nI_le (show n ≤ q by omega) (by omega)), z_inc]
  | succ k ih =>
    intro q fuel V hq hk
    obtain ⟨m, rfl⟩ := z_suc hk
    rw [fM_clumpOf_43, m0, Option.bind_some, m1, Option.bind_some, if_neg (nI_ge (show q < n by omega) (by omega)), z_has01 hG (by omega), if_pos (z_010.mpr c), z_inc]
    exact ih (q + 1) m V (by omega) (by omega)
theorem z_r43t (k21 : x_W → Nat → Int32 → Int32 → Option (Int32 × x_W)) (k31 : x_W → Nat → Int32 → Int32 → Int32 → Option (Int32 × x_W)) {G p V : Nat} (hp : p < n) (hG : G < 64) (c : G.testBit p = true) : ∀ k q fuel (w : x_W), q + k = n → k < fuel → z_mx w n f h → ∃ w', fM_clumpOf_43 k21 k31 fuel w 18 (nI (V ||| z_mk (z_uP f n h p) q)) (nI G) (nI p) (nI q) = k31 w' 18 (nI (V ||| z_mk (z_uP f n h p) n)) (nI G) (nI (p + 1)) ∧ z_kc w w' n f h := by
  intro k
  induction k with
  | zero =>
    intro q fuel w hq hk X
    obtain ⟨m, rfl⟩ := z_suc hk
    obtain ⟨m0, m1, m2, m3⟩ := z_X0 X
    have hn := X.2.1
    refine ⟨w, ?_, X, fun _ _ => rfl⟩
    rw [fM_clumpOf_43, m0, Option.bind_some, m1, Option.bind_some, if_pos (nI_le (show n ≤ q by omega) (by omega)), z_inc, show q = n by omega]
  | succ k ih =>
    intro q fuel w hq hk X
    obtain ⟨m, rfl⟩ := z_suc hk
    obtain ⟨m0, m1, m2, m3⟩ := z_X0 X
    have hn := X.2.1
    have hh := z_h64 hn X.2.2.2.1
    have hlt : q < n := by omega
    rw [fM_clumpOf_43, m0, Option.bind_some, m1, Option.bind_some, if_neg (nI_ge hlt (by omega)), z_has01 hG (by omega), if_neg (fun e => by rw [z_010, c] at e; cases e), m2, Option.bind_some, m3, Option.bind_some, z_has01 hh (by omega), z_inc, z_bit q (by omega), z_or]
    cases c1 : h.testBit q
    · rw [if_pos (by rw [z_010])]
      obtain ⟨w1, r1, r2⟩ := z_mbnd X hp hlt
      rw [r1, Option.bind_some]
      dsimp only
      obtain ⟨w', r3, r4⟩ := ih (q + 1) m w1 (by omega) (by omega) r2.1
      refine ⟨w', ?_, z_kc_t r2 r4⟩
      cases c2 : z_bnd f n h p q n
      · rw [if_pos (by rw [z_010])]
        rw [z_mk, if_neg (by unfold z_uP; rw [c2]; simp), Nat.or_zero] at r3
        exact r3
      · rw [if_neg (fun e => by rw [z_010] at e; cases e)]
        rw [z_mk, if_pos (by unfold z_uP; rw [c1, c2]; rfl), ← Nat.or_assoc] at r3
        exact r3
    · rw [if_neg (fun e => by rw [z_010] at e; cases e)]
      obtain ⟨w', r3, r4⟩ := ih (q + 1) m w (by omega) (by omega) X
      rw [z_mk, if_neg (by unfold z_uP; rw [c1]; simp), Nat.or_zero] at r3
      exact ⟨w', r3, r4⟩
theorem z_r31 (k21 : x_W → Nat → Int32 → Int32 → Option (Int32 × x_W)) {G : Nat} (hG : G < 64) : ∀ k p fuel (w : x_W), p + k = n → k < fuel → z_mx w n f h → ∃ w', fM_clumpOf_31 k21 fuel w 18 (nI (G ||| z_up f n h G p)) (nI G) (nI p) = k21 w' 18 (nI (G ||| z_up f n h G n)) (nI G) ∧ z_kc w w' n f h := by
  intro k
  induction k with
  | zero =>
    intro p fuel w hp hk X
    obtain ⟨m, rfl⟩ := z_suc hk
    obtain ⟨m0, m1, m2, m3⟩ := z_X0 X
    have hn := X.2.1
    refine ⟨w, ?_, X, fun _ _ => rfl⟩
    rw [fM_clumpOf_31, m0, Option.bind_some, m1, Option.bind_some, if_pos (nI_le (show n ≤ p by omega) (by omega)), show p = n by omega]
  | succ k ih =>
    intro p fuel w hp hk X
    obtain ⟨m, rfl⟩ := z_suc hk
    obtain ⟨m0, m1, m2, m3⟩ := z_X0 X
    have hn := X.2.1
    have hlt : p < n := by omega
    rw [fM_clumpOf_31, m0, Option.bind_some, m1, Option.bind_some, if_neg (nI_ge hlt (by omega))]
    cases c : G.testBit p
    · obtain ⟨w', r3, r4⟩ := ih (p + 1) m w (by omega) (by omega) X
      rw [z_up, if_neg (by rw [c]; decide), Nat.or_zero] at r3
      exact ⟨w', (z_r43f k21 (fM_clumpOf_31 k21 m) X hlt hG c n 0 x_F _ (by omega) (by unfold x_F; omega)).trans r3, r4⟩
    · obtain ⟨w1, r1, r2⟩ := z_r43t k21 (fM_clumpOf_31 k21 m) (V := G ||| z_up f n h G p) hlt hG c n 0 x_F w (by omega) (by unfold x_F; omega) X
      obtain ⟨w', r3, r4⟩ := ih (p + 1) m w1 (by omega) (by omega) r2.1
      rw [z_mk, Nat.or_zero] at r1
      rw [z_up, if_pos c, ← Nat.or_assoc] at r3
      exact ⟨w', r1.trans r3, z_kc_t r2 r4⟩
theorem z_round (k21 : x_W → Nat → Int32 → Int32 → Option (Int32 × x_W)) {G : Nat} (X : z_mx w n f h) (hG : G < 2 ^ n) (hs : ∀ p, G.testBit p = true → h.testBit p = false) : ∃ w', fM_clumpOf_31 k21 x_F w 18 (nI G) (nI G) 0 = k21 w' 18 (nI (z_st f n h G)) (nI G) ∧ z_kc w w' n f h := by
  have hn := X.2.1
  have hh := z_h64 hn X.2.2.2.1
  obtain ⟨w', r1, r2⟩ := z_r31 k21 (z_h64 hn hG) n 0 x_F w (by omega) (by unfold x_F; omega) X
  rw [z_up_st hn hh hG hs, z_up, Nat.or_zero] at r1
  exact ⟨w', r1, r2⟩
theorem z_r21 : ∀ k G fuel (w : x_W), z_mx w n f h → G < 2 ^ n → (∀ p, G.testBit p = true → h.testBit p = false) → n ≤ k + z_pc G → k < fuel → ∃ w', fM_clumpOf_21 fuel w 18 (nI (z_st f n h G)) (nI G) = some (nI (z_rd f n h (k + 1) G), w') ∧ z_kc w w' n f h := by
  intro k
  induction k with
  | zero =>
    intro G fuel w X hG hs hp hk
    obtain ⟨m, rfl⟩ := z_suc hk
    have e := z_st_full (f := f) (h := h) X.2.1 hG (by omega)
    rw [fM_clumpOf_21, e, if_pos rfl]
    exact ⟨w, by rw [z_rd_id e], X, fun _ _ => rfl⟩
  | succ k ih =>
    intro G fuel w X hG hs hp hk
    obtain ⟨m, rfl⟩ := z_suc hk
    have hn := X.2.1
    have hh := z_h64 hn X.2.2.2.1
    by_cases e : z_st f n h G = G
    · rw [fM_clumpOf_21, e, if_pos rfl]
      exact ⟨w, by rw [z_rd_id e], X, fun _ _ => rfl⟩
    · have l1 := z_h64 hn (z_st_lt (f := f) (h := h) hG)
      have l2 := z_h64 hn hG
      rw [fM_clumpOf_21, if_neg (fun q => e ((nI_eq (by omega) (by omega)).mp q))]
      have hs' := z_st_seen (f := f) hn hh hG hs
      obtain ⟨w1, r1, r2⟩ := z_round (fM_clumpOf_21 m) X (z_st_lt (f := f) hG) hs'
      obtain ⟨w', r3, r4⟩ := ih (z_st f n h G) m w1 r2.1 (z_st_lt hG) hs' (by have := z_st_grow hn hG e; omega) (by omega)
      exact ⟨w', r1.trans r3, z_kc_t r2 r4⟩
theorem z_pc1 : ∀ p, p < 6 → z_pc (2 ^ p) = 1 := by decide +kernel
theorem z_Mclump (X : z_mx w n f h) {p : Nat} (hp : p < n) : ∃ w', fM_clumpOf w 18 (nI p) = some (nI (z_cl f n h p), w') ∧ z_kc w w' n f h := by
  obtain ⟨m0, m1, m2, m3⟩ := z_X0 X
  have hn := X.2.1
  have hh := z_h64 hn X.2.2.2.1
  unfold fM_clumpOf z_cl
  rw [m2, Option.bind_some, m3, Option.bind_some, z_has01 hh (by omega)]
  cases c : h.testBit p
  · rw [if_pos (by rw [z_010]), if_neg (by decide), z_bit p (by omega)]
    have hs : ∀ q, (2 ^ p).testBit q = true → h.testBit q = false := by
      intro q hq
      rw [Nat.testBit_two_pow, decide_eq_true_iff] at hq
      rw [← hq]; exact c
    have hp0 := Nat.two_pow_pos p
    have l2 := z_h64 hn (z_p2 hp)
    obtain ⟨w1, r1, r2⟩ := z_round (fM_clumpOf_21 99999999) X (z_p2 hp) hs
    obtain ⟨w', r3, r4⟩ := z_r21 (n - 1) (2 ^ p) 99999999 w1 r2.1 (z_p2 hp) hs (by rw [z_pc1 p (by omega)]; omega) (by omega)
    refine ⟨w', ?_, z_kc_t r2 r4⟩
    rw [show x_F = 99999999 + 1 from rfl, fM_clumpOf_21, if_neg (fun q => by have := (z_nz (by omega)).mp q; omega)]
    rw [show n - 1 + 1 = n by omega] at r3
    exact r1.trans r3
  · rw [if_neg (fun e => by rw [z_010] at e; cases e), if_pos rfl]
    exact ⟨w, rfl, X, fun _ _ => rfl⟩
end
