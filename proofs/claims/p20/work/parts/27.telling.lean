/-! the class's searches and tells, as numbers -/
def z_ib : Option Nat → Int32
  | none => -1
  | some s => nI s
def z_few (s : Nat) (b : Option Nat) : Bool := match b with
  | none => true
  | some c => decide (z_pc s < z_pc c)
def z_bs (P : Nat → Bool) : Nat → Nat → Option Nat → Option Nat
  | 0, _, b => b
  | k + 1, s, b => z_bs P k (s + 1) (if P s && z_few s b then some s else b)
theorem z_pc7 : ∀ s, s < 64 → z_pc s < 7 := by decide +kernel
theorem z_m1 {s : Nat} (h : s < 2 ^ 31) : ¬ nI s = -1 := by
  intro e
  have h1 : (nI s).toInt = (s : Int) := nI_toInt h
  rw [e] at h1
  have h2 : (-1 : Int32).toInt = -1 := by decide
  omega
theorem z_fewer {s : Nat} {b : Option Nat} (hs : s < 64) (hb : ∀ c, b = some c → c < 64) : fA_isFewer (nI s) (z_ib b) = if z_few s b then 1 else 0 := by
  unfold fA_isFewer
  cases b with
  | none => rfl
  | some c =>
    have hc := hb c rfl
    show (if nI c = -1 then (1 : Int32) else if fI_bitCount (nI c) ≤ fI_bitCount (nI s) then 0 else 1) = if z_few s (some c) then 1 else 0
    rw [if_neg (z_m1 (s := c) (by omega))]
    show (if fI_bitCount (nI c) ≤ fI_bitCount (nI s) then (0 : Int32) else 1) = if z_few s (some c) then 1 else 0
    rw [z_bitCount c hc, z_bitCount s hs]
    have h1 := z_pc7 s hs
    have h2 := z_pc7 c hc
    unfold z_few
    by_cases e : z_pc s < z_pc c
    · rw [if_neg (nI_ge e (by omega))]; simp [e]
    · rw [if_pos (nI_le (by omega) (by omega))]; simp [e]
theorem z_bs64 {P : Nat → Bool} : ∀ k s b, s + k ≤ 64 → (∀ c, b = some c → c < 64) → ∀ c, z_bs P k s b = some c → c < 64
  | 0, s, b, _, hb, c, h => hb c h
  | k + 1, s, b, hk, hb, c, h => by
    rw [z_bs] at h
    refine z_bs64 k (s + 1) _ (by omega) ?_ c h
    intro c' h'
    split at h'
    · cases h'; omega
    · exact hb c' h'
theorem z_within_iff {s m : Nat} (hs : s < 64) (hm : m < 64) : fA_isWithin (nI s) (nI m) = if s &&& m = s then 1 else 0 := by
  by_cases e : s &&& m = s
  · rw [if_pos e, z_within1 hs hm e]
  · rw [if_neg e]
    rcases z_within hm (nI s) with ⟨s', h1, h2, h3⟩ | h
    · have : s = s' := (nI_eq (by omega) (by omega)).mp h3
      subst this
      exact absurd h2 e
    · exact h
section
variable {w : x_W} {g n h : Nat} {f : Nat → Nat} {t : Nat → Nat → Nat}
def z_Pp (f : Nat → Nat) (n m i j s : Nat) : Bool := decide (s &&& m = s) && decide (z_ow f n s j n none i (2 ^ i) = 0)
theorem z_Cleast (A : z_A w g) (G : z_gc w g n f t h) {i j : Nat} (hi : i < n) (hj : j < n) : fA_leastParting w 0 (nI i) (nI j) = some (z_ib (z_bs (z_Pp f n (z_but n i j) i j) (z_but n i j + 1) 0 none)) := by
  obtain ⟨a0, a1, -⟩ := z_A0 A
  obtain ⟨-, b1, -, -, b2, -⟩ := z_G0 G
  have hn := G.1.2.1
  have hm := z_but64 (i := i) (j := j) hn
  have loop : ∀ k s b fuel, s + k = z_but n i j + 1 → k < fuel → (∀ c, b = some c → c < 64) → fA_leastParting_23 w fuel 0 (nI i) (nI j) (nI (z_but n i j)) (z_ib b) (nI s) = some (z_ib (z_bs (z_Pp f n (z_but n i j) i j) k s b)) := by
    intro k
    induction k with
    | zero =>
      intro s b fuel hs hk hb
      obtain ⟨m, rfl⟩ := z_suc hk
      rw [fA_leastParting_23, if_pos (nI_lt (by omega) (by omega)), z_bs]
    | succ k ih =>
      intro s b fuel hs hk hb
      obtain ⟨m, rfl⟩ := z_suc hk
      have hs64 : s < 64 := by omega
      rw [fA_leastParting_23, if_neg (nI_nlt (by omega) (by omega)), z_within_iff hs64 hm, z_fewer hs64 hb, a1, Option.bind_some, b1, Option.bind_some, b2, Option.bind_some, z_parted (z_gc_arr G) hs64 hi hj, Option.bind_some, z_inc, z_bs]
      unfold z_Pp
      by_cases c1 : s &&& z_but n i j = s
      · rw [if_pos c1, if_neg (by decide)]
        by_cases c2 : z_few s b
        · rw [if_pos c2, if_neg (by decide)]
          by_cases c3 : z_ow f n s j n none i (2 ^ i) = 0
          · rw [if_pos c3, if_neg (by decide)]
            simp only [c1, c2, c3, decide_true, Bool.and_self, if_true]
            exact ih (s + 1) (some s) m (by omega) (by omega) (fun c hc => by cases hc; omega)
          · rw [if_neg c3, if_pos rfl]
            simp only [c3, decide_false, Bool.and_false, Bool.false_and, Bool.false_eq_true, if_false]
            exact ih (s + 1) b m (by omega) (by omega) hb
        · rw [if_neg c2, if_pos rfl]
          simp only [c2, Bool.and_false, Bool.false_eq_true, if_false]
          exact ih (s + 1) b m (by omega) (by omega) hb
      · rw [if_neg c1, if_pos rfl]
        simp only [c1, decide_false, Bool.false_and, Bool.false_eq_true, if_false]
        exact ih (s + 1) b m (by omega) (by omega) hb
  unfold fA_leastParting
  rw [a0, Option.bind_some, z_all A G, Option.bind_some, z_butI hn hi hj, show (-1 : Int32) = z_ib none from rfl, show (0 : Int32) = nI 0 from rfl]
  exact loop (z_but n i j + 1) 0 none x_F (by omega) (by unfold x_F; omega) (fun c hc => by cases hc)
theorem z_Cparting (A : z_A w g) (G : z_gc w g n f t h) {i j : Nat} (hi : i < n) (hj : j < n) (hij : i ≠ j) : fA_parting w 0 (nI i) (nI j) = some (z_ib (z_bs (z_Pp f n (z_but n i j) i j) (z_but n i j + 1) 0 none)) := by
  obtain ⟨a0, -⟩ := z_A0 A
  unfold fA_parting
  rw [a0, Option.bind_some, z_pair A G hi hj hij, Option.bind_some, if_neg (by decide), z_Cleast A G hi hj, Option.bind_some]
theorem z_Cparting0 (A : z_A w g) (G : z_gc w g n f t h) {a b : Int32} (hv : ¬ z_Vp n a b) : fA_parting w 0 a b = some (-2) := by
  obtain ⟨a0, -⟩ := z_A0 A
  unfold fA_parting
  rw [a0, Option.bind_some, z_pair0 A G hv, Option.bind_some, if_pos rfl]
def z_alq (P : Nat → Bool) : Nat → Nat → Bool
  | 0, _ => true
  | k + 1, q => P q && z_alq P k (q + 1)
/-- each of a set is parted from goal by z -/
def z_ep (f : Nat → Nat) (n s goal z : Nat) : Bool := z_alq (fun m => !s.testBit m || decide (z_ow f n z goal n none m (2 ^ m) = 0)) n 0
theorem z_each {a s goal z : Nat} (H : z_arr w a n f) (hs : s < 64) (hg : goal < n) (hz : z < 64) : fA_isEachParted w a (nI s) (nI goal) (nI z) = some (if z_ep f n s goal z then 1 else 0) := by
  have H0 := H
  obtain ⟨hn, hf, hob, hfi, -⟩ := H
  have loop : ∀ k q fuel, q + k = n → k < fuel → fA_isEachParted_3 w fuel a (nI s) (nI goal) (nI z) (nI q) = some (if z_alq (fun m => !s.testBit m || decide (z_ow f n z goal n none m (2 ^ m) = 0)) k q then 1 else 0) := by
    intro k
    induction k with
    | zero =>
      intro q fuel hq hk
      obtain ⟨m, rfl⟩ := z_suc hk
      rw [fA_isEachParted_3, hfi, Option.bind_some, if_pos (nI_le (by omega) (by omega))]
      rfl
    | succ k ih =>
      intro q fuel hq hk
      obtain ⟨m, rfl⟩ := z_suc hk
      have hlt : q < n := by omega
      rw [fA_isEachParted_3, hfi, Option.bind_some, if_neg (nI_ge hlt (by omega)), z_has _ hs _ (by omega), z_parted H0 hz hlt hg, Option.bind_some, z_inc, z_alq]
      by_cases c1 : s.testBit q
      · rw [if_pos c1, if_neg (by decide)]
        by_cases c2 : z_ow f n z goal n none q (2 ^ q) = 0
        · rw [if_pos c2, if_neg (by decide)]
          simp only [c1, c2, Bool.not_true, decide_true, Bool.false_or, Bool.true_and]
          exact ih (q + 1) m (by omega) (by omega)
        · rw [if_neg c2, if_pos rfl]
          simp [c1, c2]
      · rw [if_neg c1, if_pos rfl]
        simp only [c1, Bool.not_false, Bool.true_or, Bool.true_and]
        exact ih (q + 1) m (by omega) (by omega)
  unfold fA_isEachParted
  rw [show (0 : Int32) = nI 0 from rfl]
  exact loop n 0 x_F (by omega) (by unfold x_F; omega)
/-- the arrows that a set's places send are cut -/
def z_ct (f : Nat → Nat) (c p : Nat) : Nat := f p &&& (63 - c)
def z_back (f : Nat → Nat) (n i j s : Nat) : Bool := decide (s &&& z_rc f 63 i n = 0) && decide (z_ow (z_ct f (2 ^ i)) n s j n none i (2 ^ i) = 0)
def z_front (f : Nat → Nat) (n i j s : Nat) : Bool := !decide (s = 0) && !(z_rc f (63 - s) i n).testBit j && z_ep (z_ct f (2 ^ i)) n s i 0 && z_ep (z_ct f s) n s j (2 ^ i)
def z_inst (f : Nat → Nat) (n i j s : Nat) : Bool := decide (z_pc s = 1) && !z_ep f n s i 0 && z_ep (z_ct f (2 ^ i)) n s j 0
def z_tl (f : Nat → Nat) (n what i j s : Nat) : Bool := if what = 0 then z_back f n i j s else if what = 1 then z_front f n i j s else z_inst f n i j s
theorem z_cutTo (A : z_A w g) (G : z_gc w g n f t h) (S : z_sc w) {c : Nat} (hc : c < 64) : ∃ w', fR_copyWithout w 9 (g + 1) (nI c) = some w' ∧ z_arr w' 9 n (z_ct f c) ∧ z_sc w' ∧ ∀ k, k ≠ 9 → k ≠ 10 → w'[k]? = w[k]? := by
  obtain ⟨⟨m, C, s1, s2⟩, s3, s4, s5, s6, s7, s8, s9⟩ := S
  obtain ⟨h0, h1, h2, F, U, h3, h4, h5, h6⟩ := G
  have hg := A.2
  obtain ⟨w', C', r1, r2, r3, r4, r5⟩ := z_copyW s1 s2 h2 h3 h0.2.1 (fun p hp => z_f64 h0.2.1 h0.2.2.1 hp) h5 hc (by omega) (by omega) (by omega) (by omega) (by omega)
  refine ⟨w', r1, z_arr_of r2 r3 h0.2.1 (fun p hp => Nat.lt_of_le_of_lt Nat.and_le_left (h0.2.2.1 p hp)) r4, ⟨⟨_, _, r2, r3⟩, ?_, ?_, ?_, ?_, ?_, ?_, ?_⟩, r5⟩
  · obtain ⟨a, b, e⟩ := s3; exact ⟨a, b, by rw [r5 11 (by omega) (by omega)]; exact e⟩
  · obtain ⟨a, e⟩ := s4; exact ⟨a, by rw [r5 12 (by omega) (by omega)]; exact e⟩
  · obtain ⟨a, e⟩ := s5; exact ⟨a, by rw [r5 13 (by omega) (by omega)]; exact e⟩
  · obtain ⟨a, e⟩ := s6; exact ⟨a, by rw [r5 14 (by omega) (by omega)]; exact e⟩
  · obtain ⟨a, e⟩ := s7; exact ⟨a, by rw [r5 15 (by omega) (by omega)]; exact e⟩
  · obtain ⟨a, b, c, d, e⟩ := s8; exact ⟨a, b, c, d, by rw [r5 16 (by omega) (by omega)]; exact e⟩
  · obtain ⟨a, b, c, d, e⟩ := s9; exact ⟨a, b, c, d, by rw [r5 17 (by omega) (by omega)]; exact e⟩
theorem z_A_same {w' : x_W} (A : z_A w g) (hs : w'[0]? = w[0]?) : z_A w' g := ⟨by rw [hs]; exact A.1, A.2⟩
theorem z_p64 {i : Nat} (hi : i < 6) : 2 ^ i < 64 := Nat.lt_of_lt_of_le (Nat.pow_lt_pow_right (by omega) hi) (by decide)
theorem z_Cback (A : z_A w g) (G : z_gc w g n f t h) (S : z_sc w) {i j s : Nat} (hi : i < n) (hj : j < n) (hs : s < 64) : ∃ w', fA_isBackSet w 0 (nI i) (nI j) (nI s) = some (if z_back f n i j s then 1 else 0, w') ∧ z_sc w' ∧ ∀ k, k ≠ 9 → k ≠ 10 → w'[k]? = w[k]? := by
  have hn := G.1.2.1
  obtain ⟨a0, a1, -, a2, -⟩ := z_A0 A
  obtain ⟨-, b1, -, -, b2, -⟩ := z_G0 G
  obtain ⟨w', r1, r2, r3, r4⟩ := z_cutTo A G S (c := 2 ^ i) (z_p64 (by omega))
  obtain ⟨-, -, -, c2, -⟩ := z_A0 (z_A_same A (r4 0 (by omega) (by omega)))
  have S0 := S
  obtain ⟨⟨m, C, s1, s2⟩, -⟩ := S
  have o9 : x_ob w 9 1 = some () := z_ob s1
  unfold fA_isBackSet z_back
  rw [a1, Option.bind_some, b1, Option.bind_some, b2, Option.bind_some, z_after (z_gc_arr G) hi, Option.bind_some, z_and, a2, Option.bind_some, o9, Option.bind_some, z_bit i (by omega), r1, Option.bind_some, c2, Option.bind_some, r2.2.2.1, Option.bind_some, z_parted r2 hs hi hj, Option.bind_some]
  have hx : s &&& z_rc f 63 i n < 2 ^ 31 := Nat.lt_of_le_of_lt Nat.and_le_left (by omega)
  by_cases c1 : s &&& z_rc f 63 i n = 0
  · rw [if_pos ((z_nz hx).mpr c1)]
    refine ⟨w', ?_, r3, r4⟩
    by_cases c3 : z_ow (z_ct f (2 ^ i)) n s j n none i (2 ^ i) = 0
    · simp [c1, c3]
    · simp [c1, c3]
  · rw [if_neg (fun z => c1 ((z_nz hx).mp z))]
    exact ⟨w, by simp [c1], S0, fun _ _ _ => rfl⟩
end
