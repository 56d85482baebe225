theorem z_one : ∀ s, s < 64 → z_pc s = 1 → ∃ k, k < 6 ∧ s = 2 ^ k := by decide +kernel
theorem z_only {k : Nat} (hk : k < 6) : fM_only (nI (2 ^ k)) = some (nI k) := by
  have loop : ∀ j p fuel, p + j = k → j < fuel → fM_only_2 fuel (nI (2 ^ k)) (nI p) = some (nI k) := by
    intro j
    induction j with
    | zero =>
      intro p fuel hp hf
      obtain ⟨m, rfl⟩ := z_suc hf
      rw [fM_only_2, z_hasM _ (z_p64 hk) _ (by omega), Nat.testBit_two_pow, show p = k by omega]
      simp
    | succ j ih =>
      intro p fuel hp hf
      obtain ⟨m, rfl⟩ := z_suc hf
      rw [fM_only_2, z_hasM _ (z_p64 hk) _ (by omega), Nat.testBit_two_pow, z_inc]
      have : ¬ k = p := by omega
      simp only [this, decide_false, Bool.false_eq_true, if_false, if_true]
      exact ih (p + 1) m (by omega) (by omega)
  unfold fM_only
  rw [show (0 : Int32) = nI 0 from rfl]
  exact loop k 0 x_F (by omega) (by unfold x_F; omega)
theorem z_ep1 {F : Nat → Nat} {n k goal z : Nat} (hk : k < n) : z_ep F n (2 ^ k) goal z = decide (z_ow F n z goal n none k (2 ^ k) = 0) := by
  unfold z_ep
  cases e : decide (z_ow F n z goal n none k (2 ^ k) = 0)
  · cases q : z_alq (fun m => !(2 ^ k).testBit m || decide (z_ow F n z goal n none m (2 ^ m) = 0)) n 0
    · rfl
    · have := (z_alq_iff n 0).mp q k (by omega) (by omega)
      rw [Nat.testBit_two_pow] at this
      simp [e] at this
  · refine (z_alq_iff n 0).mpr fun m _ hm => ?_
    rw [Nat.testBit_two_pow]
    by_cases c : k = m
    · subst c; rw [e]; simp
    · simp [c]
section
variable {w : x_W} {n h : Nat} {f : Nat → Nat}
theorem z_Mtl (X : z_mx w n f h) {what i j s : Nat} (hw : what < 3) (hi : i < n) (hj : j < n) (hij : i ≠ j) (hs : s < 2 ^ n) (k1 : s.testBit i = false) (k2 : s.testBit j = false) : ∃ w', fM_isTelling w 18 (nI what) (nI i) (nI j) (nI s) = some (if z_tl f n what i j s then 1 else 0, w') ∧ z_mx w' n f h ∧ z_kM w w' := by
  have hn := X.2.1
  have hs64 := z_h64 hn hs
  obtain ⟨m0, -⟩ := z_X0 X
  unfold fM_isTelling z_tl
  by_cases q0 : what = 0
  · subst q0
    obtain ⟨w', r1, r2, r3⟩ := z_Mback X hi hj hij hs64
    refine ⟨w', ?_, r2, r3⟩
    rw [if_pos (show nI 0 = 0 from rfl), m0, Option.bind_some, r1, Option.bind_some, if_pos (z_01 _), if_pos rfl]
  · rw [if_neg (show ¬ nI what = 0 from fun z => q0 ((z_nz (by omega)).mp z)), if_neg q0]
    by_cases q1 : what = 1
    · subst q1
      obtain ⟨w', r1, r2, r3⟩ := z_Mfront X hi hj hs64 k1 k2
      refine ⟨w', ?_, r2, r3⟩
      rw [if_pos (show nI 1 = 1 from rfl), m0, Option.bind_some, r1, Option.bind_some, if_pos (z_01 _), if_pos rfl]
    · rw [if_neg (show ¬ nI what = 1 from fun z => q1 ((nI_eq (b := 1) (by omega) (by omega)).mp z)), if_neg q1, z_ones hs64, Option.bind_some]
      unfold z_inst
      by_cases q2 : z_pc s = 1
      · obtain ⟨k, hk6, rfl⟩ := z_one s hs64 q2
        have hkn : k < n := by
          rcases Nat.lt_or_ge k n with q | q
          · exact q
          · have : 2 ^ n ≤ 2 ^ k := Nat.pow_le_pow_right (by omega) q
            omega
        have hki : k ≠ i := fun e => by rw [Nat.testBit_two_pow] at k1; simp [e] at k1
        have hkj : k ≠ j := fun e => by rw [Nat.testBit_two_pow] at k2; simp [e] at k2
        obtain ⟨w', r1, r2, r3⟩ := z_Minst X hi hj hkn hki hkj
        refine ⟨w', ?_, r2, r3⟩
        rw [if_pos (by rw [q2]; rfl), z_only hk6, Option.bind_some, m0, Option.bind_some, r1, Option.bind_some, z_ep1 hkn, z_ep1 hkn]
        simp only [q2, decide_true, Bool.true_and]
        cases (!decide (z_ow f n 0 i n none k (2 ^ k) = 0) && decide (z_ow (z_ct f (2 ^ i)) n 0 j n none k (2 ^ k) = 0)) <;> rfl
      · rw [if_neg (show ¬ nI (z_pc s) = 1 from fun z => q2 ((nI_eq (b := 1) (by have := z_pc7 s hs64; omega) (by omega)).mp z))]
        exact ⟨w, by simp [q2], X, fun _ _ _ => rfl⟩
theorem z_mSP (X : z_mx w n f h) {c i j : Nat} (hc : c < 3) (hi : i < n) (hj : j < n) (hij : i ≠ j) (h1 : h.testBit i = false) (h2 : h.testBit j = false) : fM_isSeenPair w 18 (nI c) (nI i) (nI j) = some 1 := by
  have hn := X.2.1
  have hh := z_h64 hn X.2.2.2.1
  obtain ⟨m0, -, m3, m4⟩ := z_X0 X
  unfold fM_isSeenPair
  rw [show (2 : Int32) = nI 2 from rfl, z_isIn1 (by omega) (by omega), if_neg (by decide), m0, Option.bind_some, show fM_isPair w 18 (nI i) (nI j) 0 = some 1 from z_mPair (s := 0) X hi hj hij (Nat.two_pow_pos n) (by simp) (by simp), Option.bind_some, if_neg (by decide), m3, Option.bind_some, m4, Option.bind_some, z_hasM _ hh _ (by omega), h1, z_hasM _ hh _ (by omega), h2]
  rfl
theorem z_mSP0 (X : z_mx w n f h) {what a b : Int32} (hv : ¬ z_Vt n h what a b) : fM_isSeenPair w 18 what a b = some 0 := by
  have hn := X.2.1
  have hh := z_h64 hn X.2.2.2.1
  obtain ⟨m0, -, m3, m4⟩ := z_X0 X
  unfold fM_isSeenPair
  rw [show (2 : Int32) = nI 2 from rfl]
  by_cases c0 : ∃ k, k < 2 + 1 ∧ what = nI k
  · obtain ⟨c, hc, rfl⟩ := c0
    rw [z_isIn1 (by omega) (by omega), if_neg (by decide), m0, Option.bind_some]
    by_cases c1 : z_Vp n a b
    · obtain ⟨i, j, hi, hj, hij, rfl, rfl⟩ := c1
      rw [show fM_isPair w 18 (nI i) (nI j) 0 = some 1 from z_mPair (s := 0) X hi hj hij (Nat.two_pow_pos n) (by simp) (by simp), Option.bind_some, if_neg (by decide), m3, Option.bind_some, m4, Option.bind_some, z_hasM _ hh _ (by omega), z_hasM _ hh _ (by omega)]
      cases k1 : h.testBit i
      · cases k2 : h.testBit j
        · exact absurd ⟨c, i, j, hc, hi, hj, hij, k1, k2, rfl, rfl, rfl⟩ hv
        · rfl
      · rfl
    · rw [z_mPair0 X (fun ⟨i, j, s, q1, q2, q3, _, _, _, q4, q5, _⟩ => c1 ⟨i, j, q1, q2, q3, q4, q5⟩), Option.bind_some, if_pos rfl]
  · rw [z_isIn0 (by omega) c0, if_pos rfl]
theorem z_mSS (X : z_mx w n f h) {i j s : Nat} (hi : i < n) (hj : j < n) (hs : s < 2 ^ n) : fM_isSeenSet w 18 (nI i) (nI j) (nI s) = some (if s &&& z_may n h i j = s then 1 else 0) := by
  have hn := X.2.1
  have hh := z_h64 hn X.2.2.2.1
  have hs64 := z_h64 hn hs
  obtain ⟨m0, -, m3, m4⟩ := z_X0 X
  unfold fM_isSeenSet
  rw [m0, Option.bind_some, z_mSet X hs, Option.bind_some, if_neg (by decide), m3, Option.bind_some, m4, Option.bind_some, z_and, z_hasM _ hs64 _ (by omega), z_hasM _ hs64 _ (by omega)]
  have key := z_may_sub (s := s) hn hh hi hj
  have hx : s &&& h < 2 ^ 31 := Nat.lt_of_le_of_lt Nat.and_le_left (by omega)
  by_cases c1 : s &&& h = 0
  · rw [if_pos ((z_nz hx).mpr c1)]
    cases k1 : s.testBit i
    · cases k2 : s.testBit j
      · rw [if_pos (key.mpr ⟨hs, c1, k1, k2⟩).2]; rfl
      · rw [if_neg (show ¬ s &&& z_may n h i j = s from fun e => by have := (key.mp ⟨hs64, e⟩).2.2.2; rw [k2] at this; cases this)]; rfl
    · rw [if_neg (show ¬ s &&& z_may n h i j = s from fun e => by have := (key.mp ⟨hs64, e⟩).2.2.1; rw [k1] at this; cases this)]; rfl
  · rw [if_neg (fun q => c1 ((z_nz hx).mp q)), if_neg (show ¬ s &&& z_may n h i j = s from fun e => c1 (key.mp ⟨hs64, e⟩).2.1)]
theorem z_mSS0 (X : z_mx w n f h) {a b set : Int32} (hv : ¬ ∃ s, s < 2 ^ n ∧ set = nI s) : fM_isSeenSet w 18 a b set = some 0 := by
  obtain ⟨m0, -, m3, m4⟩ := z_X0 X
  unfold fM_isSeenSet
  rw [m0, Option.bind_some, z_mSet0 X hv, Option.bind_some, if_pos rfl]
theorem z_Mtelling (X : z_mx w n f h) {what i j : Nat} (hw : what < 3) (hi : i < n) (hj : j < n) (hij : i ≠ j) (k1 : h.testBit i = false) (k2 : h.testBit j = false) : ∃ w', fM_telling w 18 (nI what) (nI i) (nI j) = some (z_ib (z_bs (z_Pt f n h what i j) (z_may n h i j + 1) 0 none), w') ∧ z_mx w' n f h ∧ z_kM w w' := by
  have hn := X.2.1
  have hh := z_h64 hn X.2.2.2.1
  have h64 : 2 ^ n ≤ 64 := z_pow hn
  have hp := Nat.two_pow_pos n
  have loop : ∀ k s b fuel (w : x_W), z_mx w n f h → s + k = 2 ^ n → k < fuel → (∀ c, b = some c → c < 64) → ∃ w', fM_telling_19 fuel w 18 (nI what) (nI i) (nI j) (z_ib b) (nI s) = some (z_ib (z_bs (z_Pt f n h what i j) k s b), w') ∧ z_mx w' n f h ∧ z_kM w w' := by
    intro k
    induction k with
    | zero =>
      intro s b fuel w X hs hk hb
      obtain ⟨m, rfl⟩ := z_suc hk
      obtain ⟨m0, -⟩ := z_X0 X
      rw [fM_telling_19, m0, Option.bind_some, z_mAll X, Option.bind_some, if_pos (nI_lt (by omega) (by omega)), z_bs]
      exact ⟨w, rfl, X, fun _ _ _ => rfl⟩
    | succ k ih =>
      intro s b fuel w X hs hk hb
      obtain ⟨m, rfl⟩ := z_suc hk
      obtain ⟨m0, -⟩ := z_X0 X
      have hs64 : s < 64 := by omega
      have hs2 : s < 2 ^ n := by omega
      rw [fM_telling_19, m0, Option.bind_some, z_mAll X, Option.bind_some, if_neg (nI_nlt (by omega) (by omega)), z_mSS X hi hj hs2, Option.bind_some, z_inc, z_bs]
      have skip : (z_Pt f n h what i j s && z_few s b) = false → ∃ w', fM_telling_19 m w 18 (nI what) (nI i) (nI j) (z_ib b) (nI (s + 1)) = some (z_ib (z_bs (z_Pt f n h what i j) k (s + 1) (if (z_Pt f n h what i j s && z_few s b) = true then some s else b)), w') ∧ z_mx w' n f h ∧ z_kM w w' := by
        intro e
        rw [e]
        exact ih (s + 1) b m w X (by omega) (by omega) hb
      have turn : s &&& z_may n h i j = s → z_few s b = true → ∃ w', (fM_isTelling w 18 (nI what) (nI i) (nI j) (nI s)).bind (fun q12 => if q12.1 = (0 : Int32) then fM_telling_19 m q12.2 18 (nI what) (nI i) (nI j) (z_ib b) (nI (s + 1)) else fM_telling_19 m q12.2 18 (nI what) (nI i) (nI j) (nI s) (nI (s + 1))) = some (z_ib (z_bs (z_Pt f n h what i j) k (s + 1) (if (z_Pt f n h what i j s && z_few s b) = true then some s else b)), w') ∧ z_mx w' n f h ∧ z_kM w w' := by
        intro c1 c2
        obtain ⟨-, -, g1, g2⟩ := (z_may_sub hn hh hi hj).mp ⟨hs64, c1⟩
        obtain ⟨w1, r1, r2, r3⟩ := z_Mtl X hw hi hj hij hs2 g1 g2
        rw [r1, Option.bind_some]
        by_cases e : z_tl f n what i j s
        · have : (z_Pt f n h what i j s && z_few s b) = true := by unfold z_Pt; simp [c1, c2, e]
          rw [this]
          obtain ⟨w', p1, p2, p3⟩ := ih (s + 1) (some s) m w1 r2 (by omega) (by omega) (fun c hc => by cases hc; omega)
          refine ⟨w', ?_, p2, fun k a1 a2 => by rw [p3 k a1 a2, r3 k a1 a2]⟩
          simp only [e, if_true]
          rw [if_neg (by decide)]
          exact p1
        · have : (z_Pt f n h what i j s && z_few s b) = false := by unfold z_Pt; simp [e]
          rw [this]
          obtain ⟨w', p1, p2, p3⟩ := ih (s + 1) b m w1 r2 (by omega) (by omega) hb
          refine ⟨w', ?_, p2, fun k a1 a2 => by rw [p3 k a1 a2, r3 k a1 a2]⟩
          simp only [e, Bool.false_eq_true, if_false, if_true]
          exact p1
      by_cases c1 : s &&& z_may n h i j = s
      · rw [if_pos c1, if_neg (by decide)]
        by_cases e : b = none
        · rw [if_pos ((z_ibm hb).mpr e)]
          exact turn c1 (by rw [e]; rfl)
        · rw [if_neg (fun q => e ((z_ibm hb).mp q))]
          obtain ⟨d, rfl⟩ : ∃ d, b = some d := by
            cases b with
            | none => exact absurd rfl e
            | some d => exact ⟨d, rfl⟩
          have hd := hb d rfl
          show ∃ w', ((fM_ones (nI s)).bind fun t9 => (fM_ones (nI d)).bind fun t10 => if t10 ≤ t9 then fM_telling_19 m w 18 (nI what) (nI i) (nI j) (z_ib (some d)) (nI (s + 1)) else (fM_isTelling w 18 (nI what) (nI i) (nI j) (nI s)).bind (fun q12 => if q12.1 = (0 : Int32) then fM_telling_19 m q12.2 18 (nI what) (nI i) (nI j) (z_ib (some d)) (nI (s + 1)) else fM_telling_19 m q12.2 18 (nI what) (nI i) (nI j) (nI s) (nI (s + 1)))) = _ ∧ _
          rw [z_ones hs64, Option.bind_some, z_ones hd, Option.bind_some]
          have q1 := z_pc7 s hs64
          have q2 := z_pc7 d hd
          by_cases e2 : z_pc s < z_pc d
          · rw [if_neg (nI_ge e2 (by omega))]
            exact turn c1 (by unfold z_few; simp [e2])
          · rw [if_pos (nI_le (by omega) (by omega))]
            exact skip (by unfold z_few; simp [e2])
      · rw [if_neg c1, if_pos rfl]
        exact skip (by unfold z_Pt; simp [c1])
  obtain ⟨m0, -⟩ := z_X0 X
  unfold fM_telling
  obtain ⟨w', r1, r2, r3⟩ := loop (2 ^ n) 0 none x_F w X (by omega) (by unfold x_F; omega) (fun c hc => by cases hc)
  refine ⟨w', ?_, r2, r3⟩
  rw [m0, Option.bind_some, z_mSP X hw hi hj hij k1 k2, Option.bind_some, if_neg (by decide), show (-1 : Int32) = z_ib none from rfl, show (0 : Int32) = nI 0 from rfl, r1, z_bs_cut (m := z_may n h i j + 1)]
  · have : z_may n h i j ≤ 2 ^ n - 1 := Nat.le_trans Nat.and_le_left (Nat.le_trans Nat.and_le_left Nat.and_le_left)
    omega
  · intro s hs
    have : ¬ s &&& z_may n h i j = s := fun e => by
      have : s ≤ z_may n h i j := by rw [← e]; exact Nat.and_le_right
      omega
    unfold z_Pt; simp [this]
theorem z_Mtelling0 (X : z_mx w n f h) {what a b : Int32} (hv : ¬ z_Vt n h what a b) : fM_telling w 18 what a b = some (-2, w) := by
  obtain ⟨m0, -⟩ := z_X0 X
  unfold fM_telling
  rw [m0, Option.bind_some, z_mSP0 X hv, Option.bind_some, if_pos rfl]
theorem z_Mtells (X : z_mx w n f h) {what i j s : Nat} (hw : what < 3) (hi : i < n) (hj : j < n) (hij : i ≠ j) (k1 : h.testBit i = false) (k2 : h.testBit j = false) (hs : s < 2 ^ n) (k3 : s &&& h = 0) (k4 : s.testBit i = false) (k5 : s.testBit j = false) : ∃ w', fM_tells w 18 (nI what) (nI i) (nI j) (nI s) = some (if what = 2 ∧ z_pc s ≠ 1 then -2 else if z_tl f n what i j s then 1 else 0, w') ∧ z_mx w' n f h ∧ z_kM w w' := by
  have hn := X.2.1
  have hh := z_h64 hn X.2.2.2.1
  have hs64 := z_h64 hn hs
  obtain ⟨m0, -⟩ := z_X0 X
  have e := ((z_may_sub hn hh hi hj).mpr ⟨hs, k3, k4, k5⟩).2
  obtain ⟨w1, r1, r2, r3⟩ := z_Mtl X hw hi hj hij hs k4 k5
  unfold fM_tells
  rw [m0, Option.bind_some, z_mSP X hw hi hj hij k1 k2, Option.bind_some, if_neg (by decide), z_mSS X hi hj hs, if_pos e, Option.bind_some, if_neg (by decide), z_ones hs64, Option.bind_some, r1, Option.bind_some]
  by_cases c : what = 2
  · rw [if_pos (show nI what = 2 by rw [c]; rfl)]
    by_cases c2 : z_pc s = 1
    · rw [if_pos (show nI (z_pc s) = 1 by rw [c2]; rfl), if_neg (show ¬ (what = 2 ∧ z_pc s ≠ 1) from fun q => q.2 c2)]
      refine ⟨w1, ?_, r2, r3⟩
      cases z_tl f n what i j s <;> rfl
    · rw [if_neg (show ¬ nI (z_pc s) = 1 from fun z => c2 ((nI_eq (b := 1) (by have := z_pc7 s hs64; omega) (by omega)).mp z)), if_pos (show what = 2 ∧ z_pc s ≠ 1 from ⟨c, c2⟩)]
      exact ⟨w, rfl, X, fun _ _ _ => rfl⟩
  · rw [if_neg (show ¬ nI what = 2 from fun z => c ((nI_eq (b := 2) (by omega) (by omega)).mp z)), if_neg (show ¬ (what = 2 ∧ z_pc s ≠ 1) from fun q => c q.1)]
    refine ⟨w1, ?_, r2, r3⟩
    cases z_tl f n what i j s <;> rfl
theorem z_Mtells0 (X : z_mx w n f h) {what a b set : Int32} (hv : ¬ z_Vs n h what a b set) : fM_tells w 18 what a b set = some (-2, w) := by
  have hn := X.2.1
  have hh := z_h64 hn X.2.2.2.1
  obtain ⟨m0, -⟩ := z_X0 X
  unfold fM_tells
  rw [m0, Option.bind_some]
  by_cases c : z_Vt n h what a b
  · obtain ⟨c, i, j, hc, hi, hj, hij, k1, k2, rfl, rfl, rfl⟩ := c
    rw [z_mSP X hc hi hj hij k1 k2, Option.bind_some, if_neg (by decide)]
    by_cases c2 : ∃ s, s < 2 ^ n ∧ set = nI s
    · obtain ⟨s, hs, rfl⟩ := c2
      rw [z_mSS X hi hj hs, Option.bind_some]
      by_cases e : s &&& z_may n h i j = s
      · obtain ⟨r1, r2, r3, r4⟩ := (z_may_sub hn hh hi hj).mp ⟨z_h64 hn hs, e⟩
        exact absurd ⟨c, i, j, s, hc, hi, hj, hij, k1, k2, r1, r2, r3, r4, rfl, rfl, rfl, rfl⟩ hv
      · rw [if_neg e, if_pos rfl]
    · rw [z_mSS0 X c2, Option.bind_some, if_pos rfl]
  · rw [z_mSP0 X c, Option.bind_some, if_pos rfl]
end
