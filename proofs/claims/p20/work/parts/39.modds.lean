/-! the reference's odds, would, effect and swayed -/
def z_fin (a b part : Nat) : Int32 := if b = 0 then -1 else nI (if part = 0 then a / Nat.gcd a b else b / Nat.gcd a b)
theorem z_finM {a b part : Nat} (hp : part < 2) (ha : a < 2 ^ 25) (hb : b < 2 ^ 25) : (if (lg_cmp (lN b) (0 : Int64)) = (0 : Int32) then some (-1 : Int32) else (fM_part (lN a) (lN b) (nI part)).bind fun t5 => some t5) = some (z_fin a b part) := by
  unfold z_fin
  by_cases c : b = 0
  · subst c
    rw [if_pos (show lg_cmp (lN 0) 0 = 0 from (lg_cmp_eq _ _).mpr rfl), if_pos rfl]
  · rw [if_neg (fun q => c ((z_lnz (by omega)).mp ((lg_cmp_eq _ _).mp q))), if_neg c, z_part hp ha hb (by omega), Option.bind_some]
/-- x a set of places, y values of it -/
def z_Vv (n : Nat) (x y : Int32) : Prop := ∃ q v, q < 2 ^ n ∧ v &&& q = v ∧ x = nI q ∧ y = nI v
def z_Vo (n : Nat) (q v d e u r part : Int32) : Prop := z_Vv n q v ∧ z_Vv n d e ∧ z_Vv n u r ∧ ∃ k, k < 2 ∧ part = nI k
def z_oF (P : Nat → Nat) (C : Nat → Bool) (X : Nat) : Nat := if C X then P X else 0
theorem z_oF_t {P : Nat → Nat} {C : Nat → Bool} {X : Nat} (h : C X = true) : z_oF P C X = P X := by unfold z_oF; rw [if_pos h]
theorem z_oF_f {P : Nat → Nat} {C : Nat → Bool} {X : Nat} (h : C X = false) : z_oF P C X = 0 := by unfold z_oF; rw [h]; rfl
theorem z_vlt {q v n : Nat} (hq : q < 2 ^ n) (hv : v &&& q = v) : v < 2 ^ n := by rw [← hv]; exact Nat.lt_of_le_of_lt Nat.and_le_right hq
section
variable {w : x_W} {n h : Nat} {f : Nat → Nat} {t : Nat → Nat → Nat}
theorem z_mVal (X : z_mx w n f h) {q v : Nat} (hq : q < 2 ^ n) (hv : v &&& q = v) : fM_isValues w 18 (nI q) (nI v) = some 1 := by
  obtain ⟨m0, -⟩ := z_X0 X
  have hn := X.2.1
  have hv2 := z_vlt hq hv
  have hw := z_within1 (z_h64 hn hv2) (z_h64 hn hq) hv
  unfold fA_isWithin at hw
  unfold fM_isValues
  rw [m0, Option.bind_some, z_mSet X hq, Option.bind_some, if_neg (by decide), z_mSet X hv2, Option.bind_some, if_neg (by decide)]
  split
  · rfl
  · rename_i c; rw [if_neg c] at hw; exact absurd hw (by decide)
theorem z_mVal0 (X : z_mx w n f h) {x y : Int32} (hv : ¬ z_Vv n x y) : fM_isValues w 18 x y = some 0 := by
  obtain ⟨m0, -⟩ := z_X0 X
  have hn := X.2.1
  unfold fM_isValues
  rw [m0, Option.bind_some]
  by_cases c1 : ∃ s, s < 2 ^ n ∧ x = nI s
  · obtain ⟨q, hq, rfl⟩ := c1
    rw [z_mSet X hq, Option.bind_some, if_neg (by decide)]
    by_cases c2 : ∃ s, s < 2 ^ n ∧ y = nI s
    · obtain ⟨v, hv', rfl⟩ := c2
      have l1 := z_h64 hn hv'
      rw [z_mSet X hv', Option.bind_some, if_neg (by decide)]
      rcases z_within (z_h64 hn hq) (nI v) with ⟨s, h1, h2, h3⟩ | c
      · have : v = s := (nI_eq (by omega) (by omega)).mp h3
        subst this
        exact absurd ⟨q, v, hq, h2, rfl, rfl⟩ hv
      · unfold fA_isWithin at c
        split
        · rename_i c'; rw [if_pos c'] at c; exact absurd c (by decide)
        · rfl
    · rw [z_mSet0 X c2, Option.bind_some, if_pos rfl]
  · rw [z_mSet0 X c1, Option.bind_some, if_pos rfl]
theorem z_isP1 {k : Nat} (hk : k < 2) : fM_isIn (nI k) 0 1 = 1 := by rcases z_b2 hk with rfl | rfl <;> decide
theorem z_isP0 {x : Int32} (hx : ¬ ∃ k, k < 2 ∧ x = nI k) : fM_isIn x 0 1 = 0 := z_isIn0 (m := 1) (by omega) hx
theorem z_16n {n : Nat} (hn : n ≤ 6) : 16 ^ n < 2 ^ 25 := Nat.lt_of_le_of_lt (Nat.pow_le_pow_right (by omega) hn) (by decide)
theorem z_Modds (X : z_mx w n f h) (G : z_mg w 0 n f t) {q v d e u r part : Nat} (hq : q < 2 ^ n) (hv : v &&& q = v) (hd : d < 2 ^ n) (he : e &&& d = e) (hu : u < 2 ^ n) (hr : r &&& u = r) (hp : part < 2) : fM_odds w 18 (nI q) (nI v) (nI d) (nI e) (nI u) (nI r) (nI part) = some (z_fin (z_df f t d e u r d e q v n 0 0 0) (z_df f t d e u r d e u r n 0 0 0) part) := by
  obtain ⟨m0, m1, -⟩ := z_X0 X
  have hn := X.2.1
  have h64 : 2 ^ n ≤ 64 := z_pow hn
  have hv2 := z_vlt hq hv
  have he2 := z_vlt hd he
  have hr2 := z_vlt hu hr
  have ht := G.2.2.1
  have A1 : z_df f t d e u r d e q v n 0 0 0 = z_sum (z_oF (fun X => z_pr (fun p => z_fc f t d e p X) n 0) (fun X => decide (X &&& u = r) && decide (X &&& q = v))) (2 ^ n) := z_df1 G.2.1 ht hu hr hq hv
  have A2 : z_df f t d e u r d e u r n 0 0 0 = z_sum (z_oF (fun X => z_pr (fun p => z_fc f t d e p X) n 0) (fun X => decide (X &&& u = r) && decide (X &&& u = r))) (2 ^ n) := z_df1 G.2.1 ht hu hr hu hr
  have B1 : z_df f t d e u r d e q v n 0 0 0 ≤ 16 ^ n := z_df_le ht n 0 0 0
  have B2 : z_df f t d e u r d e u r n 0 0 0 ≤ 16 ^ n := z_df_le ht n 0 0 0
  have h16 := z_16n hn
  generalize z_df f t d e u r d e q v n 0 0 0 = D1 at A1 B1 ⊢
  generalize z_df f t d e u r d e u r n 0 0 0 = D2 at A2 B2 ⊢
  have loop : ∀ k x fuel, x + k = 2 ^ n → k < fuel → fM_odds_52 w fuel 18 (nI q) (nI v) (nI d) (nI e) (nI u) (nI r) (nI part) (lN (z_sum (z_oF (fun X => z_pr (fun p => z_fc f t d e p X) n 0) (fun X => decide (X &&& u = r) && decide (X &&& q = v))) x)) (lN (z_sum (z_oF (fun X => z_pr (fun p => z_fc f t d e p X) n 0) (fun X => decide (X &&& u = r) && decide (X &&& u = r))) x)) (nI x) = some (z_fin D1 D2 part) := by
    intro k
    induction k with
    | zero =>
      intro x fuel hx hk
      obtain ⟨m, rfl⟩ := z_suc hk
      rw [fM_odds_52, m0, Option.bind_some, z_mAll X, Option.bind_some, if_pos (nI_lt (show 2 ^ n - 1 < x by omega) (by omega)), show x = 2 ^ n by omega, ← A1, ← A2]
      exact z_finM hp (by omega) (by omega)
    | succ k ih =>
      intro x fuel hx hk
      obtain ⟨m, rfl⟩ := z_suc hk
      have next := ih (x + 1) m (by omega) (by omega)
      rw [fM_odds_52, m0, Option.bind_some, z_mAll X, Option.bind_some, if_neg (nI_nlt (show x ≤ 2 ^ n - 1 by omega) (by omega)), z_and, z_and, z_inc]
      have a1 := Nat.lt_of_le_of_lt (Nat.and_le_left (n := x) (m := u)) (show x < 64 by omega)
      have a2 := Nat.lt_of_le_of_lt (Nat.and_le_left (n := x) (m := q)) (show x < 64 by omega)
      by_cases c1 : x &&& u = r
      · rw [if_pos (show nI (x &&& u) = nI r by rw [c1]), show (0 : Int32) = nI 0 from rfl, z_Mdraws G (by omega) (by omega) (by omega) (by omega), Option.bind_some, lN_add]
        by_cases c2 : x &&& q = v
        · rw [if_pos (show nI (x &&& q) = nI v by rw [c2]), lN_add]
          rw [z_sum, z_sum, z_oF_t (by simp [c1, c2]), z_oF_t (by simp [c1])] at next
          exact next
        · rw [if_neg (fun z => c2 ((nI_eq (by omega) (by omega)).mp z)), lN_add]
          rw [z_sum, z_sum, z_oF_f (by simp [c2]), z_oF_t (by simp [c1])] at next
          exact next
      · rw [if_neg (fun z => c1 ((nI_eq (by omega) (by omega)).mp z))]
        rw [z_sum, z_sum, z_oF_f (by simp [c1]), z_oF_f (by simp [c1])] at next
        exact next
  unfold fM_odds
  rw [m0, Option.bind_some, z_mVal X hq hv, Option.bind_some, if_neg (by decide), z_mVal X hd he, Option.bind_some, if_neg (by decide), z_mVal X hu hr, Option.bind_some, if_neg (by decide), z_isP1 hp, if_neg (by decide)]
  exact loop (2 ^ n) 0 x_F (by omega) (by unfold x_F; omega)
theorem z_Modds0 (X : z_mx w n f h) {q v d e u r part : Int32} (hv : ¬ z_Vo n q v d e u r part) : fM_odds w 18 q v d e u r part = some (-2) := by
  obtain ⟨m0, m1, -⟩ := z_X0 X
  unfold fM_odds
  rw [m0, Option.bind_some]
  by_cases c1 : z_Vv n q v
  · by_cases c2 : z_Vv n d e
    · by_cases c3 : z_Vv n u r
      · have c4 : ¬ ∃ k, k < 2 ∧ part = nI k := fun z => hv ⟨c1, c2, c3, z⟩
        obtain ⟨_, _, a1, a2, rfl, rfl⟩ := c1
        obtain ⟨_, _, b1, b2, rfl, rfl⟩ := c2
        obtain ⟨_, _, d1, d2, rfl, rfl⟩ := c3
        rw [z_mVal X a1 a2, Option.bind_some, if_neg (by decide), z_mVal X b1 b2, Option.bind_some, if_neg (by decide), z_mVal X d1 d2, Option.bind_some, if_neg (by decide), z_isP0 c4, if_pos rfl]
      · obtain ⟨_, _, a1, a2, rfl, rfl⟩ := c1
        obtain ⟨_, _, b1, b2, rfl, rfl⟩ := c2
        rw [z_mVal X a1 a2, Option.bind_some, if_neg (by decide), z_mVal X b1 b2, Option.bind_some, if_neg (by decide), z_mVal0 X c3, Option.bind_some, if_pos rfl]
    · obtain ⟨_, _, a1, a2, rfl, rfl⟩ := c1
      rw [z_mVal X a1 a2, Option.bind_some, if_neg (by decide), z_mVal0 X c2, Option.bind_some, if_pos rfl]
  · rw [z_mVal0 X c1, Option.bind_some, if_pos rfl]
theorem z_Mwould0 (X : z_mx w n f h) {q v d e u r part : Int32} (hv : ¬ z_Vo n q v d e u r part) : fM_would w 18 q v d e u r part = some (-2) := by
  obtain ⟨m0, m1, -⟩ := z_X0 X
  unfold fM_would
  rw [m0, Option.bind_some]
  by_cases c1 : z_Vv n q v
  · by_cases c2 : z_Vv n d e
    · by_cases c3 : z_Vv n u r
      · have c4 : ¬ ∃ k, k < 2 ∧ part = nI k := fun z => hv ⟨c1, c2, c3, z⟩
        obtain ⟨_, _, a1, a2, rfl, rfl⟩ := c1
        obtain ⟨_, _, b1, b2, rfl, rfl⟩ := c2
        obtain ⟨_, _, d1, d2, rfl, rfl⟩ := c3
        rw [z_mVal X a1 a2, Option.bind_some, if_neg (by decide), z_mVal X b1 b2, Option.bind_some, if_neg (by decide), z_mVal X d1 d2, Option.bind_some, if_neg (by decide), z_isP0 c4, if_pos rfl]
      · obtain ⟨_, _, a1, a2, rfl, rfl⟩ := c1
        obtain ⟨_, _, b1, b2, rfl, rfl⟩ := c2
        rw [z_mVal X a1 a2, Option.bind_some, if_neg (by decide), z_mVal X b1 b2, Option.bind_some, if_neg (by decide), z_mVal0 X c3, Option.bind_some, if_pos rfl]
    · obtain ⟨_, _, a1, a2, rfl, rfl⟩ := c1
      rw [z_mVal X a1 a2, Option.bind_some, if_neg (by decide), z_mVal0 X c2, Option.bind_some, if_pos rfl]
  · rw [z_mVal0 X c1, Option.bind_some, if_pos rfl]
theorem z_Mwould (X : z_mx w n f h) (G : z_mg w 0 n f t) {q v d e u r part : Nat} (hq : q < 2 ^ n) (hv : v &&& q = v) (hd : d < 2 ^ n) (he : e &&& d = e) (hu : u < 2 ^ n) (hr : r &&& u = r) (hp : part < 2) : fM_would w 18 (nI q) (nI v) (nI d) (nI e) (nI u) (nI r) (nI part) = some (z_fin (z_df f t 0 0 u r d e q v n 0 0 0) (z_df f t 0 0 u r 0 0 u r n 0 0 0) part) := by
  obtain ⟨m0, m1, -⟩ := z_X0 X
  have hn := X.2.1
  have h64 : 2 ^ n ≤ 64 := z_pow hn
  have hv2 := z_vlt hq hv
  have he2 := z_vlt hd he
  have hr2 := z_vlt hu hr
  have ht := G.2.2.1
  have A1 : z_df f t 0 0 u r d e q v n 0 0 0 = z_sum (z_oF (fun X => z_sum (z_oF (fun Y => z_pr (fun p => z_nf (z_wi 0 0 p (t p (X &&& f p))) (z_bt X p) (z_wi d e p (t p (Y &&& f p))) (z_bt Y p)) n 0) (fun Y => decide (Y &&& q = v))) (2 ^ n)) (fun X => decide (X &&& u = r))) (2 ^ n) := z_df2 G.2.1 hu hr hq hv
  have A2 : z_df f t 0 0 u r 0 0 u r n 0 0 0 = z_sum (z_oF (fun X => z_pr (fun p => z_fc f t 0 0 p X) n 0) (fun X => decide (X &&& u = r) && decide (X &&& u = r))) (2 ^ n) := z_df1 G.2.1 ht hu hr hu hr
  have B1 : z_df f t 0 0 u r d e q v n 0 0 0 ≤ 16 ^ n := z_df_le ht n 0 0 0
  have B2 : z_df f t 0 0 u r 0 0 u r n 0 0 0 ≤ 16 ^ n := z_df_le ht n 0 0 0
  have h16 := z_16n hn
  generalize z_df f t 0 0 u r d e q v n 0 0 0 = D1 at A1 B1 ⊢
  generalize z_df f t 0 0 u r 0 0 u r n 0 0 0 = D2 at A2 B2 ⊢
  have inner : ∀ (k52 : Nat → Int32 → Int32 → Int32 → Int32 → Int32 → Int32 → Int32 → Int64 → Int64 → Int32 → Option Int32) (x a : Nat) (L : Int64), x < 64 → ∀ k y fuel, y + k = 2 ^ n → k < fuel → fM_would_88 w k52 fuel 18 (nI q) (nI v) (nI d) (nI e) (nI u) (nI r) (nI part) (lN (a + z_sum (z_oF (fun Y => z_pr (fun p => z_nf (z_wi 0 0 p (t p (x &&& f p))) (z_bt x p) (z_wi d e p (t p (Y &&& f p))) (z_bt Y p)) n 0) (fun Y => decide (Y &&& q = v))) y)) L (nI x) (nI y) = k52 18 (nI q) (nI v) (nI d) (nI e) (nI u) (nI r) (nI part) (lN (a + z_sum (z_oF (fun Y => z_pr (fun p => z_nf (z_wi 0 0 p (t p (x &&& f p))) (z_bt x p) (z_wi d e p (t p (Y &&& f p))) (z_bt Y p)) n 0) (fun Y => decide (Y &&& q = v))) (2 ^ n))) L (nI (x + 1)) := by
    intro k52 x a L hx k
    induction k with
    | zero =>
      intro y fuel hy hk
      obtain ⟨m, rfl⟩ := z_suc hk
      rw [fM_would_88, m0, Option.bind_some, z_mAll X, Option.bind_some, if_pos (nI_lt (show 2 ^ n - 1 < y by omega) (by omega)), show y = 2 ^ n by omega, z_inc]
    | succ k ih =>
      intro y fuel hy hk
      obtain ⟨m, rfl⟩ := z_suc hk
      have next := ih (y + 1) m (by omega) (by omega)
      rw [fM_would_88, m0, Option.bind_some, z_mAll X, Option.bind_some, if_neg (nI_nlt (show y ≤ 2 ^ n - 1 by omega) (by omega)), z_and, z_inc]
      have a2 := Nat.lt_of_le_of_lt (Nat.and_le_left (n := y) (m := q)) (show y < 64 by omega)
      by_cases c2 : y &&& q = v
      · rw [if_pos (show nI (y &&& q) = nI v by rw [c2]), show (0 : Int32) = nI 0 from rfl, z_Mtwo G m0 m1 (by omega) (by omega) (by omega) (by omega) (by omega) (by omega), Option.bind_some, lN_add]
        rw [z_sum, z_oF_t (by simp [c2]), ← Nat.add_assoc] at next
        exact next
      · rw [if_neg (fun z => c2 ((nI_eq (by omega) (by omega)).mp z))]
        rw [z_sum, z_oF_f (by simp [c2]), Nat.add_zero] at next
        exact next
  have loop : ∀ k x fuel, x + k = 2 ^ n → k < fuel → fM_would_52 w fuel 18 (nI q) (nI v) (nI d) (nI e) (nI u) (nI r) (nI part) (lN (z_sum (z_oF (fun X => z_sum (z_oF (fun Y => z_pr (fun p => z_nf (z_wi 0 0 p (t p (X &&& f p))) (z_bt X p) (z_wi d e p (t p (Y &&& f p))) (z_bt Y p)) n 0) (fun Y => decide (Y &&& q = v))) (2 ^ n)) (fun X => decide (X &&& u = r))) x)) (lN (z_sum (z_oF (fun X => z_pr (fun p => z_fc f t 0 0 p X) n 0) (fun X => decide (X &&& u = r) && decide (X &&& u = r))) x)) (nI x) = some (z_fin D1 D2 part) := by
    intro k
    induction k with
    | zero =>
      intro x fuel hx hk
      obtain ⟨m, rfl⟩ := z_suc hk
      rw [fM_would_52, m0, Option.bind_some, z_mAll X, Option.bind_some, if_pos (nI_lt (show 2 ^ n - 1 < x by omega) (by omega)), show x = 2 ^ n by omega, ← A1, ← A2]
      exact z_finM hp (by omega) (by omega)
    | succ k ih =>
      intro x fuel hx hk
      obtain ⟨m, rfl⟩ := z_suc hk
      have next := ih (x + 1) m (by omega) (by omega)
      rw [fM_would_52, m0, Option.bind_some, z_mAll X, Option.bind_some, if_neg (nI_nlt (show x ≤ 2 ^ n - 1 by omega) (by omega)), z_and]
      have a1 := Nat.lt_of_le_of_lt (Nat.and_le_left (n := x) (m := u)) (show x < 64 by omega)
      by_cases c1 : x &&& u = r
      · rw [if_pos (show nI (x &&& u) = nI r by rw [c1]), show (0 : Int32) = nI 0 from rfl, z_Mdraws G (by omega) (by omega) (by omega) (by omega), Option.bind_some, lN_add]
        have i := inner (fM_would_52 w m) x (z_sum (z_oF (fun X => z_sum (z_oF (fun Y => z_pr (fun p => z_nf (z_wi 0 0 p (t p (X &&& f p))) (z_bt X p) (z_wi d e p (t p (Y &&& f p))) (z_bt Y p)) n 0) (fun Y => decide (Y &&& q = v))) (2 ^ n)) (fun X => decide (X &&& u = r))) x) (lN (z_sum (z_oF (fun X => z_pr (fun p => z_fc f t 0 0 p X) n 0) (fun X => decide (X &&& u = r) && decide (X &&& u = r))) x + z_pr (fun p => z_fc f t 0 0 p x) n 0)) (by omega) (2 ^ n) 0 x_F (by omega) (by unfold x_F; omega)
        rw [show z_sum (z_oF (fun Y => z_pr (fun p => z_nf (z_wi 0 0 p (t p (x &&& f p))) (z_bt x p) (z_wi d e p (t p (Y &&& f p))) (z_bt Y p)) n 0) (fun Y => decide (Y &&& q = v))) 0 = 0 from rfl, Nat.add_zero] at i
        rw [i]
        rw [z_sum, z_sum, z_oF_t (by simp [c1]), z_oF_t (by simp [c1])] at next
        exact next
      · rw [if_neg (fun z => c1 ((nI_eq (by omega) (by omega)).mp z)), z_inc]
        rw [z_sum, z_sum, z_oF_f (by simp [c1]), z_oF_f (by simp [c1])] at next
        exact next
  unfold fM_would
  rw [m0, Option.bind_some, z_mVal X hq hv, Option.bind_some, if_neg (by decide), z_mVal X hd he, Option.bind_some, if_neg (by decide), z_mVal X hu hr, Option.bind_some, if_neg (by decide), z_isP1 hp, if_neg (by decide)]
  exact loop (2 ^ n) 0 x_F (by omega) (by unfold x_F; omega)
end
