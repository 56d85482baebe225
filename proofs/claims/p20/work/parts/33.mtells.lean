/-! the reference: parting, tells, telling -/
theorem z_bs_app {P : Nat → Bool} : ∀ k1 k2 s b, z_bs P (k1 + k2) s b = z_bs P k2 (s + k1) (z_bs P k1 s b)
  | 0, k2, s, b => by rw [Nat.zero_add, z_bs, Nat.add_zero]
  | k1 + 1, k2, s, b => by
    rw [show k1 + 1 + k2 = (k1 + k2) + 1 by omega, z_bs, z_bs, z_bs_app k1 k2 (s + 1), show s + 1 + k1 = s + (k1 + 1) by omega]
theorem z_bs_no {P : Nat → Bool} {m : Nat} (h : ∀ s, m ≤ s → P s = false) : ∀ k s b, m ≤ s → z_bs P k s b = b
  | 0, s, b, _ => rfl
  | k + 1, s, b, hs => by rw [z_bs, h s hs]; simp only [Bool.false_and, Bool.false_eq_true, if_false]; exact z_bs_no h k (s + 1) b (by omega)
theorem z_bs_cut {P : Nat → Bool} {m N : Nat} (hm : m ≤ N) (h : ∀ s, m ≤ s → P s = false) : z_bs P N 0 none = z_bs P m 0 none := by
  obtain ⟨k, rfl⟩ : ∃ k, N = m + k := ⟨N - m, by omega⟩
  rw [z_bs_app, z_bs_no h k _ _ (by omega)]
theorem z_bs_congr {P P' : Nat → Bool} : ∀ k s b, (∀ q, s ≤ q → q < s + k → P q = P' q) → z_bs P k s b = z_bs P' k s b
  | 0, _, _, _ => rfl
  | k + 1, s, b, h => by rw [z_bs, z_bs, h s (by omega) (by omega), z_bs_congr k (s + 1) _ (fun q h1 h2 => h q (by omega) (by omega))]
theorem z_ibm {b : Option Nat} (hb : ∀ c, b = some c → c < 64) : (z_ib b = -1) ↔ b = none := by
  cases b with
  | none => simp [z_ib]
  | some c =>
    constructor
    · intro e; exact absurd e (z_m1 (s := c) (by have := hb c rfl; omega))
    · intro e; cases e
theorem z_alq_iff {P : Nat → Bool} : ∀ k q, z_alq P k q = true ↔ ∀ m, q ≤ m → m < q + k → P m = true
  | 0, q => by
    constructor
    · intro _ m h1 h2; omega
    · intro _; rfl
  | k + 1, q => by
    rw [z_alq, Bool.and_eq_true, z_alq_iff k (q + 1)]
    constructor
    · rintro ⟨h1, h2⟩ m h3 h4
      by_cases e : m = q
      · subst e; exact h1
      · exact h2 m (by omega) (by omega)
    · intro hh
      exact ⟨hh q (by omega) (by omega), fun m h1 h2 => hh m (by omega) (by omega)⟩
section
variable {w : x_W} {n h : Nat} {f : Nat → Nat}
theorem z_Mleast {c : Nat} (X : z_mx w n f h) (H : z_mw w c n f) {i j : Nat} (hi : i < n) (hj : j < n) (hij : i ≠ j) : ∃ w', fM_partingOf w 18 (nI i) (nI j) = some (z_ib (z_bs (z_Pp (z_ct f c) n (z_but n i j) i j) (z_but n i j + 1) 0 none), w') ∧ z_mx w' n f h ∧ z_mw w' c n f ∧ ∀ k, k ≠ 23 → w'[k]? = w[k]? := by
  have hn := X.2.1
  have h64 : 2 ^ n ≤ 64 := z_pow hn
  have hp := Nat.two_pow_pos n
  have loop : ∀ k s b fuel (w : x_W), z_mx w n f h → z_mw w c n f → s + k = 2 ^ n → k < fuel → (∀ c, b = some c → c < 64) → ∃ w', fM_partingOf_5 fuel w 18 (nI i) (nI j) (z_ib b) (nI s) = some (z_ib (z_bs (z_Pp (z_ct f c) n (z_but n i j) i j) k s b), w') ∧ z_mx w' n f h ∧ z_mw w' c n f ∧ ∀ k, k ≠ 23 → w'[k]? = w[k]? := by
    intro k
    induction k with
    | zero =>
      intro s b fuel w X H hs hk hb
      obtain ⟨m, rfl⟩ := z_suc hk
      obtain ⟨m0, -⟩ := z_X0 X
      rw [fM_partingOf_5, m0, Option.bind_some, z_mAll X, Option.bind_some, if_pos (nI_lt (by omega) (by omega)), z_bs]
      exact ⟨w, rfl, X, H, fun _ _ => rfl⟩
    | succ k ih =>
      intro s b fuel w X H hs hk hb
      obtain ⟨m, rfl⟩ := z_suc hk
      obtain ⟨m0, -⟩ := z_X0 X
      have hs64 : s < 64 := by omega
      rw [fM_partingOf_5, m0, Option.bind_some, z_mAll X, Option.bind_some, if_neg (nI_nlt (by omega) (by omega)), z_hasM _ hs64 _ (by omega), z_hasM _ hs64 _ (by omega), z_inc, z_bs]
      have skip : (z_Pp (z_ct f c) n (z_but n i j) i j s && z_few s b) = false → ∃ w', fM_partingOf_5 m w 18 (nI i) (nI j) (z_ib b) (nI (s + 1)) = some (z_ib (z_bs (z_Pp (z_ct f c) n (z_but n i j) i j) k (s + 1) (if (z_Pp (z_ct f c) n (z_but n i j) i j s && z_few s b) = true then some s else b)), w') ∧ z_mx w' n f h ∧ z_mw w' c n f ∧ ∀ k, k ≠ 23 → w'[k]? = w[k]? := by
        intro e
        rw [e]
        exact ih (s + 1) b m w X H (by omega) (by omega) hb
      have turn : s &&& z_but n i j = s → z_few s b = true → ∃ w', (fM_waysOf w 18 (nI i) (nI j) (nI s)).bind (fun q12 => if q12.1 = (0 : Int32) then fM_partingOf_5 m q12.2 18 (nI i) (nI j) (nI s) (nI (s + 1)) else fM_partingOf_5 m q12.2 18 (nI i) (nI j) (z_ib b) (nI (s + 1))) = some (z_ib (z_bs (z_Pp (z_ct f c) n (z_but n i j) i j) k (s + 1) (if (z_Pp (z_ct f c) n (z_but n i j) i j s && z_few s b) = true then some s else b)), w') ∧ z_mx w' n f h ∧ z_mw w' c n f ∧ ∀ k, k ≠ 23 → w'[k]? = w[k]? := by
        intro c1 c2
        obtain ⟨w1, r1, r2, r3, r4⟩ := z_mways X H hi hj hij hs64
        rw [r1, Option.bind_some]
        by_cases e : z_ow (z_ct f c) n s j n none i (2 ^ i) = 0
        · rw [if_pos ((z_nz (z_owb hn)).mpr e)]
          have : (z_Pp (z_ct f c) n (z_but n i j) i j s && z_few s b) = true := by unfold z_Pp; simp [c1, c2, e]
          rw [this]
          obtain ⟨w', p1, p2, p3, p4⟩ := ih (s + 1) (some s) m w1 r2 r3 (by omega) (by omega) (fun c hc => by cases hc; omega)
          exact ⟨w', p1, p2, p3, fun k hk => by rw [p4 k hk, r4 k hk]⟩
        · rw [if_neg (fun q => e ((z_nz (z_owb hn)).mp q))]
          have : (z_Pp (z_ct f c) n (z_but n i j) i j s && z_few s b) = false := by unfold z_Pp; simp [e]
          rw [this]
          obtain ⟨w', p1, p2, p3, p4⟩ := ih (s + 1) b m w1 r2 r3 (by omega) (by omega) hb
          exact ⟨w', p1, p2, p3, fun k hk => by rw [p4 k hk, r4 k hk]⟩
      cases k1 : s.testBit i
      · cases k2 : s.testBit j
        · have c1 := ((z_but_sub hn hi hj).mpr ⟨show s < 2 ^ n by omega, k1, k2⟩).2
          simp only [Bool.false_eq_true, if_false, if_true]
          by_cases e : b = none
          · rw [if_pos ((z_ibm hb).mpr e)]
            exact turn c1 (by rw [e]; rfl)
          · rw [if_neg (fun q => e ((z_ibm hb).mp q))]
            obtain ⟨d, rfl⟩ : ∃ d, b = some d := by
              cases b with
              | none => exact absurd rfl e
              | some d => exact ⟨d, rfl⟩
            have hd := hb d rfl
            show ∃ w', ((fM_ones (nI s)).bind fun t9 => (fM_ones (nI d)).bind fun t10 => if t10 ≤ t9 then fM_partingOf_5 m w 18 (nI i) (nI j) (z_ib (some d)) (nI (s + 1)) else (fM_waysOf w 18 (nI i) (nI j) (nI s)).bind (fun q12 => if q12.1 = (0 : Int32) then fM_partingOf_5 m q12.2 18 (nI i) (nI j) (nI s) (nI (s + 1)) else fM_partingOf_5 m q12.2 18 (nI i) (nI j) (z_ib (some d)) (nI (s + 1)))) = _ ∧ _
            rw [z_ones hs64, Option.bind_some, z_ones hd, Option.bind_some]
            have q1 := z_pc7 s hs64
            have q2 := z_pc7 d hd
            by_cases e2 : z_pc s < z_pc d
            · rw [if_neg (nI_ge e2 (by omega))]
              exact turn c1 (by unfold z_few; simp [e2])
            · rw [if_pos (nI_le (by omega) (by omega))]
              exact skip (by unfold z_few; simp [e2])
        · simp only [Bool.false_eq_true, if_false, if_true]
          rw [if_neg (by decide)]
          exact skip (by
            have : ¬ s &&& z_but n i j = s := fun e => by
              have := ((z_but_sub hn hi hj).mp ⟨hs64, e⟩).2.2
              rw [k2] at this; cases this
            unfold z_Pp; simp [this])
      · simp only [if_true]
        rw [if_neg (by decide)]
        exact skip (by
          have : ¬ s &&& z_but n i j = s := fun e => by
            have := ((z_but_sub hn hi hj).mp ⟨hs64, e⟩).2.1
            rw [k1] at this; cases this
          unfold z_Pp; simp [this])
  unfold fM_partingOf
  obtain ⟨w', r1, r2, r3, r4⟩ := loop (2 ^ n) 0 none x_F w X H (by omega) (by unfold x_F; omega) (fun c hc => by cases hc)
  refine ⟨w', ?_, r2, r3, r4⟩
  rw [show (-1 : Int32) = z_ib none from rfl, show (0 : Int32) = nI 0 from rfl, r1, z_bs_cut (m := z_but n i j + 1)]
  · have : z_but n i j ≤ 2 ^ n - 1 := Nat.le_trans Nat.and_le_left Nat.and_le_left
    omega
  · intro s hs
    have : ¬ s &&& z_but n i j = s := fun e => by
      have : s ≤ z_but n i j := by rw [← e]; exact Nat.and_le_right
      omega
    unfold z_Pp; simp [this]
theorem z_Pp0 (X : z_mx w n f h) {i j m s : Nat} (hi : i < n) : z_Pp (z_ct f 0) n m i j s = z_Pp f n m i j s := by
  unfold z_Pp
  rw [z_ow0 X hi]
theorem z_Mparting (X : z_mx w n f h) {i j : Nat} (hi : i < n) (hj : j < n) (hij : i ≠ j) : ∃ w', fM_parting w 18 (nI i) (nI j) = some (z_ib (z_bs (z_Pp f n (z_but n i j) i j) (z_but n i j + 1) 0 none), w') ∧ z_mx w' n f h ∧ z_kM w w' := by
  obtain ⟨w1, r1, r2, r3, r4⟩ := z_cut0 X
  obtain ⟨w2, p1, p2, -, p4⟩ := z_Mleast r2 r3 hi hj hij
  obtain ⟨m0, -⟩ := z_X0 r2
  refine ⟨w2, ?_, p2, fun k h1 h2 => by rw [p4 k h2, r4 k h1]⟩
  unfold fM_parting
  rw [r1, Option.bind_some, m0, Option.bind_some, show fM_isPair w1 18 (nI i) (nI j) 0 = some 1 from z_mPair (s := 0) r2 hi hj hij (Nat.two_pow_pos n) (by simp) (by simp), Option.bind_some, if_neg (by decide), p1, Option.bind_some, z_bs_congr _ _ _ (fun q _ _ => z_Pp0 X hi)]
theorem z_Mparting0 (X : z_mx w n f h) {a b : Int32} (hv : ¬ z_Vp n a b) : ∃ w', fM_parting w 18 a b = some (-2, w') ∧ z_mx w' n f h ∧ z_kM w w' := by
  obtain ⟨w1, r1, r2, r3, r4⟩ := z_cut0 X
  obtain ⟨m0, -⟩ := z_X0 r2
  refine ⟨w1, ?_, r2, fun k h1 h2 => r4 k h1⟩
  unfold fM_parting
  rw [r1, Option.bind_some, m0, Option.bind_some, z_mPair0 r2 (fun ⟨i, j, s, q1, q2, q3, _, _, _, q4, q5, _⟩ => hv ⟨i, j, q1, q2, q3, q4, q5⟩), Option.bind_some, if_pos rfl]
theorem z_Mback (X : z_mx w n f h) {i j s : Nat} (hi : i < n) (hj : j < n) (hij : i ≠ j) (hs : s < 64) : ∃ w', fM_isBack w 18 (nI i) (nI j) (nI s) = some (if z_back f n i j s then 1 else 0, w') ∧ z_mx w' n f h ∧ z_kM w w' := by
  have hn := X.2.1
  obtain ⟨w1, r1, r2, r3, r4⟩ := z_cut0 X
  obtain ⟨m0, -⟩ := z_X0 r2
  obtain ⟨w5, p1, p2, p3, p4⟩ := z_cutset r2 (c := 2 ^ i) (z_p64 (by omega))
  obtain ⟨m5, -⟩ := z_X0 p2
  obtain ⟨w7, q1, q2, q3, q4⟩ := z_mways p2 p3 hi hj hij hs
  obtain ⟨w9, u1, u2, u3, u4⟩ := z_cut0 q2
  obtain ⟨w12, t1, t2, t3, t4⟩ := z_cut0 p2
  have hr : z_rc (z_ct f 0) 63 i n = z_rc f 63 i n := z_rc_congr n (fun k hk => z_ct0 hn X.2.2.1 hk)
  have hx : s &&& z_rc f 63 i n < 2 ^ 31 := Nat.lt_of_le_of_lt Nat.and_le_left (by omega)
  unfold fM_isBack z_back
  rw [r1, Option.bind_some, m0, Option.bind_some, z_Mafter r3 hi, Option.bind_some, hr, z_and, z_bit i (by omega), p1, Option.bind_some, Option.bind_some, m5, Option.bind_some, q1, Option.bind_some, u1, Option.bind_some, Option.bind_some, t1, Option.bind_some]
  by_cases c1 : s &&& z_rc f 63 i n = 0
  · rw [if_pos ((z_nz hx).mpr c1)]
    refine ⟨w9, ?_, u2, fun k h1 h2 => by rw [u4 k h1, q4 k h2, p4 k h1, r4 k h1]⟩
    by_cases c2 : z_ow (z_ct f (2 ^ i)) n s j n none i (2 ^ i) = 0
    · rw [if_pos ((z_nz (z_owb hn)).mpr c2)]; simp [c1, c2]
    · rw [if_neg (fun q => c2 ((z_nz (z_owb hn)).mp q))]; simp [c2]
  · rw [if_neg (fun q => c1 ((z_nz hx).mp q))]
    exact ⟨w12, by simp [c1], t2, fun k h1 h2 => by rw [t4 k h1, p4 k h1, r4 k h1]⟩
theorem z_Minst (X : z_mx w n f h) {i j k : Nat} (hi : i < n) (hj : j < n) (hk : k < n) (hki : k ≠ i) (hkj : k ≠ j) : ∃ w', fM_isInstrument w 18 (nI i) (nI j) (nI k) = some (if !decide (z_ow f n 0 i n none k (2 ^ k) = 0) && decide (z_ow (z_ct f (2 ^ i)) n 0 j n none k (2 ^ k) = 0) then 1 else 0, w') ∧ z_mx w' n f h ∧ z_kM w w' := by
  have hn := X.2.1
  obtain ⟨w1, r1, r2, r3, r4⟩ := z_cut0 X
  obtain ⟨m0, -⟩ := z_X0 r2
  obtain ⟨w3, a1, a2, a3, a4⟩ := z_mways r2 r3 hk hi hki (show 0 < 64 by omega)
  rw [z_ow0 X hk] at a1
  obtain ⟨w5, p1, p2, p3, p4⟩ := z_cutset a2 (c := 2 ^ i) (z_p64 (by omega))
  obtain ⟨m5, -⟩ := z_X0 p2
  obtain ⟨w9, q1, q2, q3, q4⟩ := z_mways p2 p3 hk hj hkj (show 0 < 64 by omega)
  obtain ⟨w11, u1, u2, u3, u4⟩ := z_cut0 q2
  obtain ⟨w6, t1, t2, t3, t4⟩ := z_cut0 p2
  have b1 : fM_waysOf w1 18 (nI k) (nI i) 0 = _ := a1
  have b2 : fM_waysOf w5 18 (nI k) (nI j) 0 = _ := q1
  unfold fM_isInstrument
  rw [r1, Option.bind_some, m0, Option.bind_some, b1, Option.bind_some, z_bit i (by omega), p1, Option.bind_some, Option.bind_some, t1, Option.bind_some, m5, Option.bind_some, b2, Option.bind_some, u1, Option.bind_some, Option.bind_some]
  by_cases c1 : z_ow f n 0 i n none k (2 ^ k) = 0
  · rw [if_pos ((z_nle0 (z_owb hn)).mpr c1)]
    exact ⟨w6, by simp [c1], t2, fun k h1 h2 => by rw [t4 k h1, p4 k h1, a4 k h2, r4 k h1]⟩
  · rw [if_neg (fun q => c1 ((z_nle0 (z_owb hn)).mp q))]
    refine ⟨w11, ?_, u2, fun k h1 h2 => by rw [u4 k h1, q4 k h2, p4 k h1, a4 k h2, r4 k h1]⟩
    by_cases c2 : z_ow (z_ct f (2 ^ i)) n 0 j n none k (2 ^ k) = 0
    · rw [if_pos ((z_nz (z_owb hn)).mpr c2)]; simp [c1, c2]
    · rw [if_neg (fun q => c2 ((z_nz (z_owb hn)).mp q))]; simp [c2]
end
