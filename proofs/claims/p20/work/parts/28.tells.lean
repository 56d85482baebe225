section
variable {w : x_W} {g n h : Nat} {f : Nat → Nat} {t : Nat → Nat → Nat}
theorem z_gc_k {w' : x_W} {o : Nat} (G : z_gc w o n f t h) (ho : o = 1 ∨ o = 5) (r : ∀ k, k ≠ 9 → k ≠ 10 → w'[k]? = w[k]?) : z_gc w' o n f t h := z_gc_same G (fun j h1 h2 => r j (by omega) (by omega))
theorem z_Cfront (A : z_A w g) (G : z_gc w g n f t h) (S : z_sc w) {i j s : Nat} (hi : i < n) (hj : j < n) (hij : i ≠ j) (hs : s < 64) (hsj : s.testBit j = false) : ∃ w', fA_isFrontSet w 0 (nI i) (nI j) (nI s) = some (if z_front f n i j s then 1 else 0, w') ∧ z_sc w' ∧ ∀ k, k ≠ 9 → k ≠ 10 → w'[k]? = w[k]? := by
  have hn := G.1.2.1
  obtain ⟨a0, a1, -, a2, -⟩ := z_A0 A
  obtain ⟨-, b1, -, -, b2, -⟩ := z_G0 G
  obtain ⟨w1, r1, r2, r3, r4⟩ := z_cutTo A G S (c := 2 ^ i) (z_p64 (by omega))
  have A1 := z_A_same A (r4 0 (by omega) (by omega))
  have G1 := z_gc_k G A.2 r4
  obtain ⟨-, c1, -, c2, -⟩ := z_A0 A1
  obtain ⟨-, d1, -⟩ := z_G0 G1
  obtain ⟨w2, p1, p2, p3, p4⟩ := z_cutTo A1 G1 r3 (c := s) hs
  have A2 := z_A_same A1 (p4 0 (by omega) (by omega))
  obtain ⟨-, -, -, e2, -⟩ := z_A0 A2
  have S0 := S
  obtain ⟨⟨m, C, s1, s2⟩, -⟩ := S
  have o9 : x_ob w 9 1 = some () := z_ob s1
  unfold fA_isFrontSet z_front
  by_cases q0 : s = 0
  · rw [if_pos ((z_nz (by omega)).mpr q0)]
    exact ⟨w, by simp [q0], S0, fun _ _ _ => rfl⟩
  · rw [if_neg (fun z => q0 ((z_nz (by omega)).mp z)), a1, Option.bind_some, b1, Option.bind_some, b2, Option.bind_some, z_leads (z_gc_arr G) hi hj hs hsj hij, Option.bind_some, a2, Option.bind_some, o9, Option.bind_some, z_bit i (by omega), r1, Option.bind_some, c2, Option.bind_some, show (0 : Int32) = nI 0 from rfl, z_each r2 hs hi (by omega), Option.bind_some, c1, Option.bind_some, d1, Option.bind_some, r2.2.2.1, Option.bind_some, p1, Option.bind_some, e2, Option.bind_some, z_each p2 hs hj (z_p64 (by omega)), Option.bind_some]
    by_cases q1 : (z_rc f (63 - s) i n).testBit j
    · rw [if_pos q1, if_neg (by decide)]
      exact ⟨w, by simp [q1, nI_0], S0, fun _ _ _ => rfl⟩
    · rw [if_neg q1, if_pos (by decide)]
      by_cases q2 : z_ep (z_ct f (2 ^ i)) n s i 0
      · rw [if_pos q2, if_neg (by decide)]
        refine ⟨w2, ?_, p3, fun k h1 h2 => by rw [p4 k h1 h2, r4 k h1 h2]⟩
        by_cases q3 : z_ep (z_ct f s) n s j (2 ^ i)
        · simp [q0, q1, q2, q3, nI_0]
        · simp [q0, q1, q2, q3, nI_0]
      · rw [if_neg q2, if_pos (by decide)]
        exact ⟨w1, by simp [q2, nI_0], r3, r4⟩
theorem z_pcI {s : Nat} (hs : s < 64) : fI_bitCount (nI s) = 1 ↔ z_pc s = 1 := by
  rw [z_bitCount s hs, show (1 : Int32) = nI 1 from rfl]
  exact nI_eq (by have := z_pc7 s hs; omega) (by omega)
theorem z_Cinst (A : z_A w g) (G : z_gc w g n f t h) (S : z_sc w) {i j s : Nat} (hi : i < n) (hj : j < n) (hs : s < 64) : ∃ w', fA_isInstrument w 0 (nI i) (nI j) (nI s) = some (if z_inst f n i j s then 1 else 0, w') ∧ z_sc w' ∧ ∀ k, k ≠ 9 → k ≠ 10 → w'[k]? = w[k]? := by
  have hn := G.1.2.1
  obtain ⟨a0, a1, -, a2, -⟩ := z_A0 A
  obtain ⟨-, b1, -, -, b2, -⟩ := z_G0 G
  obtain ⟨w1, r1, r2, r3, r4⟩ := z_cutTo A G S (c := 2 ^ i) (z_p64 (by omega))
  have A1 := z_A_same A (r4 0 (by omega) (by omega))
  obtain ⟨-, c1, -, c2, -⟩ := z_A0 A1
  have S0 := S
  obtain ⟨⟨m, C, s1, s2⟩, -⟩ := S
  have o9 : x_ob w 9 1 = some () := z_ob s1
  unfold fA_isInstrument z_inst
  by_cases q0 : z_pc s = 1
  · rw [if_pos ((z_pcI hs).mpr q0), a1, Option.bind_some, b1, Option.bind_some, show (0 : Int32) = nI 0 from rfl, z_each (z_gc_arr G) hs hi (by omega), Option.bind_some, a2, Option.bind_some, o9, Option.bind_some, z_bit i (by omega), r1, Option.bind_some, c2, Option.bind_some, z_each r2 hs hj (by omega), Option.bind_some]
    by_cases q1 : z_ep f n s i 0
    · rw [if_pos q1, if_neg (by decide)]
      exact ⟨w, by simp [q1, nI_0], S0, fun _ _ _ => rfl⟩
    · rw [if_neg q1, if_pos (by decide)]
      refine ⟨w1, ?_, r3, r4⟩
      by_cases q2 : z_ep (z_ct f (2 ^ i)) n s j 0
      · simp [q0, q1, q2, nI_0]
      · simp [q0, q1, q2, nI_0]
  · rw [if_neg (fun z => q0 ((z_pcI hs).mp z))]
    exact ⟨w, by simp [q0], S0, fun _ _ _ => rfl⟩
theorem z_01 (b : Bool) : (if b then (1 : Int32) else 0) = 0 ∨ (if b then (1 : Int32) else 0) = 1 := by cases b <;> simp
theorem z_Ctl (A : z_A w g) (G : z_gc w g n f t h) (S : z_sc w) {what i j s : Nat} (hw : what < 3) (hi : i < n) (hj : j < n) (hij : i ≠ j) (hs : s < 64) (hsj : s.testBit j = false) : ∃ w', fA_isTelling w 0 (nI what) (nI i) (nI j) (nI s) = some (if z_tl f n what i j s then 1 else 0, w') ∧ z_sc w' ∧ ∀ k, k ≠ 9 → k ≠ 10 → w'[k]? = w[k]? := by
  obtain ⟨a0, -⟩ := z_A0 A
  unfold fA_isTelling z_tl
  by_cases q0 : what = 0
  · subst q0
    obtain ⟨w', r1, r2, r3⟩ := z_Cback A G S hi hj hs
    refine ⟨w', ?_, r2, r3⟩
    rw [if_pos (show nI 0 = 0 from rfl), a0, Option.bind_some, r1, Option.bind_some, if_pos (z_01 _), if_pos rfl]
  · rw [if_neg (show ¬ nI what = 0 from fun z => q0 ((z_nz (by omega)).mp z)), if_neg q0]
    by_cases q1 : what = 1
    · subst q1
      obtain ⟨w', r1, r2, r3⟩ := z_Cfront A G S hi hj hij hs hsj
      refine ⟨w', ?_, r2, r3⟩
      rw [if_pos (show nI 1 = 1 from rfl), a0, Option.bind_some, r1, Option.bind_some, if_pos (z_01 _), if_pos rfl]
    · obtain ⟨w', r1, r2, r3⟩ := z_Cinst A G S hi hj hs
      refine ⟨w', ?_, r2, r3⟩
      rw [if_neg (show ¬ nI what = 1 from fun z => q1 ((nI_eq (b := 1) (by omega) (by omega)).mp z)), a0, Option.bind_some, r1, Option.bind_some, if_pos (z_01 _), if_neg q1]
/-- what, a pair of seen places -/
def z_Vt (n h : Nat) (what a b : Int32) : Prop := ∃ c i j, c < 3 ∧ i < n ∧ j < n ∧ i ≠ j ∧ h.testBit i = false ∧ h.testBit j = false ∧ what = nI c ∧ a = nI i ∧ b = nI j
theorem z_askT (A : z_A w g) (G : z_gc w g n f t h) {c i j : Nat} (hc : c < 3) (hi : i < n) (hj : j < n) (hij : i ≠ j) (h1 : h.testBit i = false) (h2 : h.testBit j = false) : fA_isAskOfTelling w 0 (nI c) (nI i) (nI j) = some 1 := by
  obtain ⟨a0, a1, -⟩ := z_A0 A
  obtain ⟨-, -, -, b3, -⟩ := z_G0 G
  have hn := G.1.2.1
  have hh := z_h64 hn G.1.2.2.2.2
  unfold fA_isAskOfTelling
  rw [if_neg (nI_pos (by omega)), if_neg (show ¬ (2 : Int32) < nI c from nI_nlt (a := 2) (by omega) (by omega)), a0, Option.bind_some, z_pair A G hi hj hij, Option.bind_some, if_neg (by decide), a1, Option.bind_some, b3, Option.bind_some, z_has _ hh _ (by omega), z_has _ hh _ (by omega), h1, h2]
  rfl
theorem z_askT0 (A : z_A w g) (G : z_gc w g n f t h) {what a b : Int32} (hv : ¬ z_Vt n h what a b) : fA_isAskOfTelling w 0 what a b = some 0 := by
  obtain ⟨a0, a1, -⟩ := z_A0 A
  obtain ⟨-, -, -, b3, -⟩ := z_G0 G
  have hn := G.1.2.1
  have hh := z_h64 hn G.1.2.2.2.2
  unfold fA_isAskOfTelling
  by_cases c1 : what < 0
  · rw [if_pos c1]
  · rw [if_neg c1]
    by_cases c2 : (2 : Int32) < what
    · rw [if_pos c2]
    · rw [if_neg c2, a0, Option.bind_some]
      by_cases c3 : z_Vp n a b
      · obtain ⟨i, j, hi, hj, hij, rfl, rfl⟩ := c3
        rw [z_pair A G hi hj hij, Option.bind_some, if_neg (by decide), a1, Option.bind_some, b3, Option.bind_some, z_has _ hh _ (by omega), z_has _ hh _ (by omega)]
        rcases pk_ix what (n := 3) (by omega) with q | q | ⟨c, q1, q2⟩
        · exact absurd q c1
        · exfalso
          apply c2
          rw [Int32.lt_iff_toInt_lt]
          rw [Int32.le_iff_toInt_le, nI_toInt (by omega)] at q
          have : (2 : Int32).toInt = 2 := by decide
          omega
        · cases k1 : h.testBit i
          · cases k2 : h.testBit j
            · exact absurd ⟨c, i, j, q1, hi, hj, hij, k1, k2, q2, rfl, rfl⟩ hv
            · rfl
          · rfl
      · rw [z_pair0 A G c3, Option.bind_some, if_pos rfl]
def z_may (n h i j : Nat) : Nat := ((2 ^ n - 1) &&& (63 - h)) &&& (63 - 2 ^ i) &&& (63 - 2 ^ j)
theorem z_may64 {i j : Nat} (hn : n ≤ 6) : z_may n h i j < 64 := by
  have h1 : 2 ^ n ≤ 64 := z_pow hn
  have h2 : z_may n h i j ≤ 2 ^ n - 1 := Nat.le_trans Nat.and_le_left (Nat.le_trans Nat.and_le_left Nat.and_le_left)
  omega
theorem z_may_bit {i j k : Nat} (hn : n ≤ 6) (hh : h < 64) (hi : i < n) (hj : j < n) (hk : k < 6) : (z_may n h i j).testBit k = (decide (k < n) && !h.testBit k && !decide (i = k) && !decide (j = k)) := by
  unfold z_may
  rw [Nat.testBit_and, Nat.testBit_and, Nat.testBit_and, z_b63 i (by omega) k hk, z_b63 j (by omega) k hk, Nat.testBit_two_pow_sub_one, z_cpl h hh k hk]
theorem z_Cmay (A : z_A w g) (G : z_gc w g n f t h) {i j : Nat} (hi : i < n) (hj : j < n) : fA_mayTell w 0 (nI i) (nI j) = some (nI (z_may n h i j)) := by
  obtain ⟨a0, a1, -⟩ := z_A0 A
  obtain ⟨-, -, -, b3, -⟩ := z_G0 G
  have hn := G.1.2.1
  have hh := z_h64 hn G.1.2.2.2.2
  have h1 : 2 ^ n ≤ 64 := z_pow hn
  have h4 := Nat.two_pow_pos n
  unfold fA_mayTell z_may
  rw [a0, Option.bind_some, z_all A G, Option.bind_some, a1, Option.bind_some, b3, Option.bind_some, z_bit i (by omega), z_bit j (by omega), z_not _ (by omega) _ hh, z_not _ (Nat.lt_of_le_of_lt Nat.and_le_left (by omega)) _ (z_p64 (by omega)), z_not _ (Nat.lt_of_le_of_lt Nat.and_le_left (Nat.lt_of_le_of_lt Nat.and_le_left (by omega))) _ (z_p64 (by omega))]
/-- a set that may tell -/
theorem z_may_sub {i j s : Nat} (hn : n ≤ 6) (hh : h < 64) (hi : i < n) (hj : j < n) : (s < 64 ∧ s &&& z_may n h i j = s) ↔ (s < 2 ^ n ∧ s &&& h = 0 ∧ s.testBit i = false ∧ s.testBit j = false) := by
  constructor
  · rintro ⟨hs, e⟩
    have hb := (z_sub_bits hs).mp e
    have hle : s < 2 ^ n := by
      have : s ≤ 2 ^ n - 1 := by
        rw [← e]
        exact Nat.le_trans Nat.and_le_right (Nat.le_trans Nat.and_le_left (Nat.le_trans Nat.and_le_left Nat.and_le_left))
      have := Nat.two_pow_pos n
      omega
    refine ⟨hle, ?_, ?_, ?_⟩
    · apply Nat.eq_of_testBit_eq
      intro k
      rw [Nat.testBit_and, Nat.zero_testBit]
      by_cases hk : k < 6
      · cases c : s.testBit k
        · simp
        · have := hb k hk c
          rw [z_may_bit hn hh hi hj hk] at this
          simp at this
          simp [this]
      · rw [z_hi (n := 6) hs (by omega)]; simp
    · cases c : s.testBit i
      · rfl
      · have := hb i (by omega) c
        rw [z_may_bit hn hh hi hj (by omega)] at this
        simp at this
    · cases c : s.testBit j
      · rfl
      · have := hb j (by omega) c
        rw [z_may_bit hn hh hi hj (by omega)] at this
        simp at this
  · rintro ⟨hs, e0, e1, e2⟩
    have hs64 := z_h64 hn hs
    refine ⟨hs64, (z_sub_bits hs64).mpr fun k hk hb => ?_⟩
    rw [z_may_bit hn hh hi hj hk]
    have hkn : k < n := by
      rcases Nat.lt_or_ge k n with q | q
      · exact q
      · rw [z_hi hs q] at hb; cases hb
    have n1 : i ≠ k := fun e => by subst e; rw [e1] at hb; cases hb
    have n2 : j ≠ k := fun e => by subst e; rw [e2] at hb; cases hb
    have n3 : h.testBit k = false := by
      have : (s &&& h).testBit k = false := by rw [e0]; exact Nat.zero_testBit k
      rw [Nat.testBit_and, hb] at this
      simpa using this
    simp [hkn, n1, n2, n3]
def z_Pt (f : Nat → Nat) (n h what i j s : Nat) : Bool := decide (s &&& z_may n h i j = s) && z_tl f n what i j s
theorem z_Ctelling (A : z_A w g) (G : z_gc w g n f t h) (S : z_sc w) {what i j : Nat} (hw : what < 3) (hi : i < n) (hj : j < n) (hij : i ≠ j) (k1 : h.testBit i = false) (k2 : h.testBit j = false) : ∃ w', fA_telling w 0 (nI what) (nI i) (nI j) = some (z_ib (z_bs (z_Pt f n h what i j) (z_may n h i j + 1) 0 none), w') ∧ z_sc w' ∧ ∀ k, k ≠ 9 → k ≠ 10 → w'[k]? = w[k]? := by
  have hn := G.1.2.1
  have hh := z_h64 hn G.1.2.2.2.2
  have hm := z_may64 (h := h) (i := i) (j := j) hn
  have loop : ∀ k s b fuel (w : x_W), z_A w g → z_gc w g n f t h → z_sc w → s + k = z_may n h i j + 1 → k < fuel → (∀ c, b = some c → c < 64) → ∃ w', fA_telling_27 fuel w 0 (nI what) (nI i) (nI j) (nI (z_may n h i j)) (z_ib b) (nI s) = some (z_ib (z_bs (z_Pt f n h what i j) k s b), w') ∧ z_sc w' ∧ ∀ k, k ≠ 9 → k ≠ 10 → w'[k]? = w[k]? := by
    intro k
    induction k with
    | zero =>
      intro s b fuel w A G S hs hk hb
      obtain ⟨m, rfl⟩ := z_suc hk
      rw [fA_telling_27, if_pos (nI_lt (by omega) (by omega)), z_bs]
      exact ⟨w, rfl, S, fun _ _ _ => rfl⟩
    | succ k ih =>
      intro s b fuel w A G S hs hk hb
      obtain ⟨m, rfl⟩ := z_suc hk
      have hs64 : s < 64 := by omega
      obtain ⟨a0, -⟩ := z_A0 A
      rw [fA_telling_27, if_neg (nI_nlt (by omega) (by omega)), z_within_iff hs64 hm, z_fewer hs64 hb, a0, Option.bind_some, z_inc, z_bs]
      unfold z_Pt
      by_cases c1 : s &&& z_may n h i j = s
      · rw [if_pos c1, if_neg (by decide)]
        have hsj : s.testBit j = false := ((z_may_sub hn hh hi hj).mp ⟨hs64, c1⟩).2.2.2
        by_cases c2 : z_few s b
        · rw [if_pos c2, if_neg (by decide)]
          obtain ⟨w1, r1, r2, r3⟩ := z_Ctl A G S hw hi hj hij hs64 hsj
          rw [r1, Option.bind_some]
          have A1 := z_A_same A (r3 0 (by omega) (by omega))
          have G1 := z_gc_k G A.2 r3
          by_cases c3 : z_tl f n what i j s
          · simp only [c1, c2, c3, decide_true, Bool.and_self, if_true]
            rw [if_neg (by decide)]
            obtain ⟨w', p1, p2, p3⟩ := ih (s + 1) (some s) m w1 A1 G1 r2 (by omega) (by omega) (fun c hc => by cases hc; omega)
            exact ⟨w', p1, p2, fun k h1 h2 => by rw [p3 k h1 h2, r3 k h1 h2]⟩
          · simp only [c3, Bool.and_false, Bool.false_and, Bool.false_eq_true, if_false, if_true]
            obtain ⟨w', p1, p2, p3⟩ := ih (s + 1) b m w1 A1 G1 r2 (by omega) (by omega) hb
            exact ⟨w', p1, p2, fun k h1 h2 => by rw [p3 k h1 h2, r3 k h1 h2]⟩
        · rw [if_neg c2, if_pos rfl]
          simp only [c2, Bool.and_false, Bool.false_eq_true, if_false]
          exact ih (s + 1) b m w A G S (by omega) (by omega) hb
      · rw [if_neg c1, if_pos rfl]
        simp only [c1, decide_false, Bool.false_and, Bool.false_eq_true, if_false]
        exact ih (s + 1) b m w A G S (by omega) (by omega) hb
  obtain ⟨a0, -⟩ := z_A0 A
  unfold fA_telling
  rw [a0, Option.bind_some, z_askT A G hw hi hj hij k1 k2, Option.bind_some, if_neg (by decide), z_Cmay A G hi hj, Option.bind_some, show (-1 : Int32) = z_ib none from rfl, show (0 : Int32) = nI 0 from rfl]
  exact loop (z_may n h i j + 1) 0 none x_F w A G S (by omega) (by unfold x_F; omega) (fun c hc => by cases hc)
theorem z_Ctelling0 (A : z_A w g) (G : z_gc w g n f t h) {what a b : Int32} (hv : ¬ z_Vt n h what a b) : fA_telling w 0 what a b = some (-2, w) := by
  obtain ⟨a0, -⟩ := z_A0 A
  unfold fA_telling
  rw [a0, Option.bind_some, z_askT0 A G hv, Option.bind_some, if_pos rfl]
/-- tells: also a set that may tell -/
def z_Vs (n h : Nat) (what a b set : Int32) : Prop := ∃ c i j s, c < 3 ∧ i < n ∧ j < n ∧ i ≠ j ∧ h.testBit i = false ∧ h.testBit j = false ∧ s < 2 ^ n ∧ s &&& h = 0 ∧ s.testBit i = false ∧ s.testBit j = false ∧ what = nI c ∧ a = nI i ∧ b = nI j ∧ set = nI s
theorem z_Ctells (A : z_A w g) (G : z_gc w g n f t h) (S : z_sc w) {what i j s : Nat} (hw : what < 3) (hi : i < n) (hj : j < n) (hij : i ≠ j) (k1 : h.testBit i = false) (k2 : h.testBit j = false) (hs : s < 2 ^ n) (k3 : s &&& h = 0) (k4 : s.testBit i = false) (k5 : s.testBit j = false) : ∃ w', fA_tells w 0 (nI what) (nI i) (nI j) (nI s) = some (if z_tl f n what i j s then 1 else 0, w') ∧ z_sc w' ∧ ∀ k, k ≠ 9 → k ≠ 10 → w'[k]? = w[k]? := by
  have hn := G.1.2.1
  have hh := z_h64 hn G.1.2.2.2.2
  obtain ⟨a0, -⟩ := z_A0 A
  obtain ⟨q1, q2⟩ := (z_may_sub hn hh hi hj).mpr ⟨hs, k3, k4, k5⟩
  obtain ⟨w1, r1, r2, r3⟩ := z_Ctl A G S hw hi hj hij q1 k5
  refine ⟨w1, ?_, r2, r3⟩
  unfold fA_tells
  rw [a0, Option.bind_some, z_askT A G hw hi hj hij k1 k2, Option.bind_some, if_neg (by decide), z_Cmay A G hi hj, Option.bind_some, z_within1 q1 (z_may64 hn) q2, if_neg (by decide), r1, Option.bind_some]
  cases z_tl f n what i j s <;> rfl
theorem z_Ctells0 (A : z_A w g) (G : z_gc w g n f t h) {what a b set : Int32} (hv : ¬ z_Vs n h what a b set) : fA_tells w 0 what a b set = some (-2, w) := by
  have hn := G.1.2.1
  have hh := z_h64 hn G.1.2.2.2.2
  obtain ⟨a0, -⟩ := z_A0 A
  unfold fA_tells
  rw [a0, Option.bind_some]
  by_cases c : z_Vt n h what a b
  · obtain ⟨c, i, j, hc, hi, hj, hij, k1, k2, rfl, rfl, rfl⟩ := c
    rw [z_askT A G hc hi hj hij k1 k2, Option.bind_some, if_neg (by decide), z_Cmay A G hi hj, Option.bind_some]
    rcases z_within (z_may64 (h := h) (i := i) (j := j) hn) set with ⟨s, q1, q2, rfl⟩ | q
    · obtain ⟨r1, r2, r3, r4⟩ := (z_may_sub hn hh hi hj).mp ⟨q1, q2⟩
      exact absurd ⟨c, i, j, s, hc, hi, hj, hij, k1, k2, r1, r2, r3, r4, rfl, rfl, rfl, rfl⟩ hv
    · rw [q, if_pos rfl]
  · rw [z_askT0 A G c, Option.bind_some, if_pos rfl]
end
