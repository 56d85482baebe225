/-! the reference's search of like graphs: the loops over the turned arrows -/
def z_pA (l : List (Nat × Nat)) (i : Nat) : Nat := ((l[i]?).getD (0, 0)).1
def z_pB (l : List (Nat × Nat)) (i : Nat) : Nat := ((l[i]?).getD (0, 0)).2
/-- the graph with the arrows of the mask turned, its first i arrows -/
def z_fo (A B : Nat → Nat) (m : Nat) : Nat → Nat → Nat
  | 0, _ => 0
  | i + 1, q => if m.testBit i then (if q = A i then z_fo A B m i q ||| 2 ^ B i else z_fo A B m i q) else (if q = B i then z_fo A B m i q ||| 2 ^ A i else z_fo A B m i q)
theorem z_or64p {s a : Nat} (hs : s < 64) (ha : a < 6) : s ||| 2 ^ a < 64 := Nat.or_lt_two_pow (n := 6) hs (Nat.lt_of_lt_of_le (Nat.pow_lt_pow_right (by omega) ha) (by omega))
theorem z_fo64 {A B : Nat → Nat} {m K : Nat} (hA : ∀ i, i < K → A i < 6 ∧ B i < 6) : ∀ i, i ≤ K → ∀ q, z_fo A B m i q < 64
  | 0, _, q => by unfold z_fo; omega
  | i + 1, hi, q => by
    have h := z_fo64 (m := m) hA i (by omega) q
    obtain ⟨h1, h2⟩ := hA i (by omega)
    unfold z_fo
    split <;> split
    · exact z_or64p h h2
    · exact h
    · exact z_or64p h h1
    · exact h
def z_ctb (G : Nat → Bool) : Nat → Nat
  | 0 => 0
  | m + 1 => z_ctb G m + if G m then 1 else 0
def z_an (G : Nat → Bool) (U : Nat → Nat → Nat) (s : Nat → Nat) : Nat → Nat → Nat
  | 0, p => s p
  | m + 1, p => if G m then z_an G U s m p &&& U m p else z_an G U s m p
theorem z_bit16 : ∀ K, K < 16 → (1 : Int32) <<< (nI K &&& 31) = nI (2 ^ K) := by decide +kernel
section
variable {n K m : Nat} {f A B : Nat → Nat} {cI lm v1 pr : Int32} {PA PB FR SU : Nat → Int32} {k96 : x_W → Nat → Int32 → Option x_W}
theorem z_f244 (hn : n ≤ 6) : ∀ k q fuel (w : x_W) SU, q + k = n → k < fuel → z_q w n f cI pr lm PA PB FR SU → ∃ w' SU', fM_findLike_244 k96 fuel w 18 v1 (nI q) = k96 w' 18 (v1 + 1) ∧ z_q w' n f cI pr lm PA PB FR SU' ∧ z_kF w w' ∧ ∀ p, p < n → SU' p = if q ≤ p then SU p &&& FR p else SU p := by
  intro k
  induction k with
  | zero =>
    intro q fuel w SU hq hf Q
    obtain ⟨m, rfl⟩ := z_suc hf
    refine ⟨w, SU, ?_, Q, fun _ _ _ => rfl, fun p hp => by rw [if_neg (by omega)]⟩
    rw [fM_findLike_244, z_q_ob Q, Option.bind_some, z_q_n Q, Option.bind_some, if_pos (nI_le (show n ≤ q by omega) (by omega))]
  | succ k ih =>
    intro q fuel w SU hq hf Q
    obtain ⟨m, rfl⟩ := z_suc hf
    obtain ⟨w1, a1, a2, a3⟩ := z_q_w27 Q (show q < 6 by omega) (SU q &&& FR q)
    obtain ⟨w', SU', b1, b2, b3, b4⟩ := ih (q + 1) m w1 _ (by omega) (by omega) a2
    refine ⟨w', SU', ?_, b2, z_kF_t a3 b3, fun p hp => ?_⟩
    · rw [fM_findLike_244, z_q_ob Q, Option.bind_some, z_q_n Q, Option.bind_some, if_neg (nI_ge (show q < n by omega) (by omega)), z_q_10 Q, Option.bind_some, z_ai Q.2.2.2.2.2.2 (show q < 6 by omega) (by omega), Option.bind_some, z_q_9 Q, Option.bind_some, z_ai Q.2.2.2.2.2.1 (show q < 6 by omega) (by omega), Option.bind_some, a1, Option.bind_some, z_inc]
      exact b1
    · rw [b4 p hp]
      by_cases c : p = q
      · subst c
        rw [if_neg (by omega), if_pos (by omega), z_upd_s]
      · rw [z_upd_n c]
        by_cases c2 : q ≤ p
        · rw [if_pos (by omega), if_pos c2]
        · rw [if_neg (by omega), if_neg c2]
theorem z_f129 (hK : K ≤ 15) (hA : ∀ i, i < K → A i < 6 ∧ B i < 6) (hPA : ∀ i, i < K → PA i = nI (A i) ∧ PB i = nI (B i)) : ∀ k i fuel (w : x_W) FR, i + k = K → k < fuel → z_q w n f cI (nI K) lm PA PB FR SU → (∀ p, p < 6 → FR p = nI (z_fo A B m i p)) → ∃ w' FR' fuel', fM_findLike_129 k96 fuel w 18 (nI m) (nI i) = fM_findLike_129 k96 (fuel' + 1) w' 18 (nI m) (nI K) ∧ z_q w' n f cI (nI K) lm PA PB FR' SU ∧ z_kF w w' ∧ ∀ p, p < 6 → FR' p = nI (z_fo A B m K p) := by
  intro k
  induction k with
  | zero =>
    intro i fuel w FR hi hf Q hF
    obtain ⟨g, rfl⟩ := z_suc hf
    obtain rfl : i = K := by omega
    exact ⟨w, FR, g, rfl, Q, fun _ _ _ => rfl, hF⟩
  | succ k ih =>
    intro i fuel w FR hi hf Q hF
    obtain ⟨g, rfl⟩ := z_suc hf
    obtain ⟨hA1, hB1⟩ := hA i (by omega)
    obtain ⟨e1, e2⟩ := hPA i (by omega)
    have ra := z_ai Q.2.2.2.1 (show i < 15 by omega) (by omega)
    have rb := z_ai Q.2.2.2.2.1 (show i < 15 by omega) (by omega)
    rw [e1] at ra
    rw [e2] at rb
    by_cases c : m.testBit i = true
    · have hh : fM_has (nI m) (nI i) = 1 := by rw [z_hasB (by omega), if_pos c]
      obtain ⟨w1, a1, a2, a3⟩ := z_q_w26 Q hA1 (FR (A i) ||| nI (2 ^ B i))
      obtain ⟨w', FR', fuel', b1, b2, b3, b4⟩ := ih (i + 1) g w1 _ (by omega) (by omega) a2 (fun p hp => by
        rw [z_fo, if_pos c]
        by_cases cp : p = A i
        · subst cp
          rw [z_upd_s, if_pos rfl, hF _ hp, z_or]
        · rw [z_upd_n cp, if_neg cp, hF p hp])
      refine ⟨w', FR', fuel', ?_, b2, z_kF_t a3 b3, b4⟩
      rw [fM_findLike_129, z_q_8 Q, Option.bind_some, if_neg (nI_ge (show i < K by omega) (by omega)), hh, if_neg (by decide), z_q_7 Q, Option.bind_some, rb, Option.bind_some, if_neg (by decide), z_q_6 Q, Option.bind_some, ra, Option.bind_some, z_q_9 Q, Option.bind_some, z_ai Q.2.2.2.2.2.1 hA1 (by omega), Option.bind_some, z_bit _ (by omega), a1, Option.bind_some, z_inc]
      exact b1
    · have hh : fM_has (nI m) (nI i) = 0 := by rw [z_hasB (by omega), if_neg c]
      obtain ⟨w1, a1, a2, a3⟩ := z_q_w26 Q hB1 (FR (B i) ||| nI (2 ^ A i))
      obtain ⟨w', FR', fuel', b1, b2, b3, b4⟩ := ih (i + 1) g w1 _ (by omega) (by omega) a2 (fun p hp => by
        rw [z_fo, if_neg c]
        by_cases cp : p = B i
        · subst cp
          rw [z_upd_s, if_pos rfl, hF _ hp, z_or]
        · rw [z_upd_n cp, if_neg cp, hF p hp])
      refine ⟨w', FR', fuel', ?_, b2, z_kF_t a3 b3, b4⟩
      rw [fM_findLike_129, z_q_8 Q, Option.bind_some, if_neg (nI_ge (show i < K by omega) (by omega)), hh, if_pos rfl, z_q_6 Q, Option.bind_some, ra, Option.bind_some, if_pos rfl, z_q_7 Q, Option.bind_some, rb, Option.bind_some, z_q_9 Q, Option.bind_some, z_ai Q.2.2.2.2.2.1 hB1 (by omega), Option.bind_some, z_bit _ (by omega), a1, Option.bind_some, z_inc]
      exact b1
theorem z_f108 : ∀ k q fuel (w : x_W) FR, q + k = 6 → k < fuel → z_q w n f cI pr lm PA PB FR SU → (∀ p, p < q → FR p = 0) → ∃ w' FR', fM_findLike_108 k96 fuel w 18 v1 (nI q) = fM_findLike_129 k96 x_F w' 18 v1 0 ∧ z_q w' n f cI pr lm PA PB FR' SU ∧ z_kF w w' ∧ ∀ p, p < 6 → FR' p = 0 := by
  intro k
  induction k with
  | zero =>
    intro q fuel w FR hq hf Q hF
    obtain ⟨g, rfl⟩ := z_suc hf
    obtain rfl : q = 6 := by omega
    exact ⟨w, FR, by rw [fM_findLike_108, if_pos (by decide)], Q, fun _ _ _ => rfl, hF⟩
  | succ k ih =>
    intro q fuel w FR hq hf Q hF
    obtain ⟨g, rfl⟩ := z_suc hf
    obtain ⟨w1, a1, a2, a3⟩ := z_q_w26 Q (show q < 6 by omega) 0
    obtain ⟨w', FR', b1, b2, b3, b4⟩ := ih (q + 1) g w1 _ (by omega) (by omega) a2 (fun p hp => by
      by_cases cp : p = q
      · subst cp; exact z_upd_s
      · rw [z_upd_n cp, hF p (by omega)])
    refine ⟨w', FR', ?_, b2, z_kF_t a3 b3, b4⟩
    rw [fM_findLike_108, show (6 : Int32) = nI 6 from rfl, if_neg (nI_ge (show q < 6 by omega) (by omega)), z_q_9 Q, Option.bind_some, a1, Option.bind_some, z_inc]
    exact b1
end
/-- is the graph of this mask one of those like f's -/
def z_gd (A B f : Nat → Nat) (K n m : Nat) : Bool := z_nr n (z_fo A B m K) && z_shp n (z_fo A B m K) f
section
variable {n K : Nat} {f A B : Nat → Nat} {cI : Int32} {PA PB : Nat → Int32}
theorem z_f96 (hn : n ≤ 6) (hf : ∀ p, p < n → f p < 64) (hK : K ≤ 15) (hA : ∀ i, i < K → A i < 6 ∧ B i < 6) (hPA : ∀ i, i < K → PA i = nI (A i) ∧ PB i = nI (B i)) : ∀ k m fuel (w : x_W) FR SU, m + k = 2 ^ K → k < fuel → z_q w n f cI (nI K) (nI (z_ctb (z_gd A B f K n) m)) PA PB FR SU → (∀ p, p < n → SU p = nI (z_an (z_gd A B f K n) (fun m => z_fo A B m K) f m p)) → ∃ w' FR' SU', fM_findLike_96 fuel w 18 (nI m) = some w' ∧ z_q w' n f cI (nI K) (nI (z_ctb (z_gd A B f K n) (2 ^ K))) PA PB FR' SU' ∧ z_kF w w' ∧ ∀ p, p < n → SU' p = nI (z_an (z_gd A B f K n) (fun m => z_fo A B m K) f (2 ^ K) p) := by
  have hp2 : 2 ^ K ≤ 2 ^ 15 := Nat.pow_le_pow_right (by omega) hK
  intro k
  induction k with
  | zero =>
    intro m fuel w FR SU hm hfu Q hS
    obtain ⟨g, rfl⟩ := z_suc hfu
    obtain rfl : m = 2 ^ K := by omega
    exact ⟨w, FR, SU, by rw [fM_findLike_96, z_q_8 Q, Option.bind_some, z_bit16 K (by omega), if_pos (nI_le (Nat.le_refl _) (by omega))], Q, fun _ _ _ => rfl, hS⟩
  | succ k ih =>
    intro m fuel w FR SU hm hfu Q hS
    obtain ⟨g, rfl⟩ := z_suc hfu
    rw [fM_findLike_96, z_q_8 Q, Option.bind_some, z_bit16 K (by omega), if_neg (nI_ge (show m < 2 ^ K by omega) (by omega))]
    obtain ⟨w1, FR1, a1, a2, a3, a4⟩ := z_f108 (k96 := fM_findLike_96 g) (v1 := nI m) 6 0 x_F w FR (by omega) (by unfold x_F; omega) Q (fun p hp => absurd hp (by omega))
    rw [show nI 0 = (0 : Int32) from rfl] at a1
    rw [a1]
    obtain ⟨w2, FR2, fu, b1, b2, b3, b4⟩ := z_f129 (k96 := fM_findLike_96 g) (m := m) hK hA hPA K 0 x_F w1 FR1 (by omega) (by unfold x_F; omega) a2 (fun p hp => by rw [a4 p hp]; rfl)
    rw [show nI 0 = (0 : Int32) from rfl] at b1
    rw [b1]
    have U : z_ar w2 26 n (z_fo A B m K) := fun p hp => ⟨z_fo64 hA K (Nat.le_refl _) p, by rw [z_ai b2.2.2.2.2.2.1 (show p < 6 by omega) (by omega), b4 p (by omega)]⟩
    have F : z_ar w2 20 n f := fun p hp => ⟨hf p hp, z_q_f b2 hn hp⟩
    rw [fM_findLike_129, z_q_8 b2, Option.bind_some, if_pos (nI_le (Nat.le_refl _) (by omega)), z_q_n b2, Option.bind_some, z_Mring U hn (z_q_9 b2), Option.bind_some]
    have stay : z_gd A B f K n m = false → ∃ w' FR' SU', fM_findLike_96 g w2 18 (nI m + 1) = some w' ∧ z_q w' n f cI (nI K) (nI (z_ctb (z_gd A B f K n) (2 ^ K))) PA PB FR' SU' ∧ z_kF w w' ∧ ∀ p, p < n → SU' p = nI (z_an (z_gd A B f K n) (fun m => z_fo A B m K) f (2 ^ K) p) := by
      intro hg
      rw [z_inc]
      have e1 : z_ctb (z_gd A B f K n) (m + 1) = z_ctb (z_gd A B f K n) m := by rw [z_ctb, hg]; rfl
      obtain ⟨w', FR', SU', c1, c2, c3, c4⟩ := ih (m + 1) g w2 FR2 SU (by omega) (by omega) (by rw [e1]; exact b2) (fun p hp => by rw [z_an, hg, hS p hp]; rfl)
      exact ⟨w', FR', SU', c1, c2, z_kF_t a3 (z_kF_t b3 c3), c4⟩
    cases r : z_nr n (z_fo A B m K) with
    | false =>
      rw [if_pos (by rfl)]
      exact stay (by unfold z_gd; rw [r]; rfl)
    | true =>
      rw [if_neg (show ¬ z_b01 true = 0 by decide), Option.bind_some, z_Mshape U F hn (z_q_9 b2) (z_q_1 b2), Option.bind_some]
      cases sh : z_shp n (z_fo A B m K) f with
      | false =>
        rw [if_pos (by rfl)]
        exact stay (by unfold z_gd; rw [r, sh]; rfl)
      | true =>
        have hg : z_gd A B f K n m = true := by unfold z_gd; rw [r, sh]; rfl
        obtain ⟨w3, d1, d2, d3⟩ := z_q_w11 b2 (nI (z_ctb (z_gd A B f K n) m) + 1)
        rw [if_neg (show ¬ z_b01 true = 0 by decide), z_q_11 b2, Option.bind_some, d1, Option.bind_some]
        obtain ⟨w4, SU4, e1, e2, e3, e4⟩ := z_f244 (k96 := fM_findLike_96 g) (v1 := nI m) hn n 0 x_F w3 SU (by omega) (by unfold x_F; omega) d2
        rw [show nI 0 = (0 : Int32) from rfl] at e1
        rw [e1, z_inc]
        have e1 : nI (z_ctb (z_gd A B f K n) m) + 1 = nI (z_ctb (z_gd A B f K n) (m + 1)) := by rw [z_inc, z_ctb, hg]; rfl
        rw [e1] at e2
        obtain ⟨w', FR', SU', c1, c2, c3, c4⟩ := ih (m + 1) g w4 FR2 SU4 (by omega) (by omega) e2 (fun p hp => by
          rw [z_an, hg, e4 p hp, if_pos (by omega), hS p hp, b4 p (by omega), z_and]; rfl)
        exact ⟨w', FR', SU', c1, c2, z_kF_t a3 (z_kF_t b3 (z_kF_t d3 (z_kF_t e3 c3))), c4⟩
end
