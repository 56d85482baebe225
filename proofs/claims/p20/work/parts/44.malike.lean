/-! the reference's alike: the odds -/
theorem z_sum_one {g : Nat → Nat} {v : Nat} : ∀ m, v < m → (∀ i, i < m → i ≠ v → g i = 0) → z_sum g m = g v
  | 0, h, _ => by omega
  | m + 1, h, hh => by
    rw [z_sum]
    by_cases c : m = v
    · subst c
      rw [z_sum_0 m (fun i hi => hh i (by omega) (by omega)), Nat.zero_add]
    · rw [z_sum_one m (by omega) (fun i hi => hh i (by omega)), hh m (by omega) c, Nat.add_zero]
theorem z_point {f : Nat → Nat} {t : Nat → Nat → Nat} {n : Nat} (hf : ∀ p, p < n → f p < 2 ^ p) (ht : ∀ p v, t p v ≤ 16) {d e v : Nat} (hv : v < 2 ^ n) : z_df f t d e (2 ^ n - 1) v d e (2 ^ n - 1) v n 0 0 0 = z_pr (fun p => z_fc f t d e p v) n 0 := by
  have hm : 2 ^ n - 1 < 2 ^ n := by omega
  have A : z_df f t d e (2 ^ n - 1) v d e (2 ^ n - 1) v n 0 0 0 = z_sum (z_oF (fun X => z_pr (fun p => z_fc f t d e p X) n 0) (fun X => decide (X &&& (2 ^ n - 1) = v) && decide (X &&& (2 ^ n - 1) = v))) (2 ^ n) := z_df1 hf ht hm (z_sub_mask.mpr hv) hm (z_sub_mask.mpr hv)
  rw [A, z_sum_one (2 ^ n) hv, z_oF_t]
  · simp [z_sub_mask.mpr hv]
  · intro i hi hne
    exact z_oF_f (by simp [z_sub_mask.mpr hi, hne])
theorem z_lcmp {a b : Nat} (ha : a < 2 ^ 63) (hb : b < 2 ^ 63) : lg_cmp (lN a) (lN b) = 0 ↔ a = b := by
  rw [lg_cmp_eq]; exact pk_lEQ ha hb
section
variable {w : x_W} {n h h' : Nat} {f f' : Nat → Nat} {t t' : Nat → Nat → Nat}
theorem z_prB (ht : ∀ p v, t p v ≤ 16) (hn : n ≤ 6) {d e v : Nat} : z_pr (fun p => z_fc f t d e p v) n 0 < 2 ^ 25 := Nat.lt_of_le_of_lt (z_pr_le (fun p => z_fc_le ht) n 0) (z_16n hn)
theorem z_MsameOdds (X : z_mx w n f h) (G : z_mg w 0 n f t) (G1 : z_mg w 1 n f' t') {d e : Nat} (hd : d < 64) (he : e < 64) : fM_sameOdds w 18 (nI d) (nI e) = some (if z_same n f t f' t' d e (2 ^ n - 1) = true then 1 else 0) := by
  obtain ⟨m0, m1, -⟩ := z_X0 X
  have hn := X.2.1
  have h64 : 2 ^ n ≤ 64 := z_pow hn
  have hpn := Nat.two_pow_pos n
  have ht := G.2.2.1
  have ht' := G1.2.2.1
  have loop : ∀ k x fuel, x + k = 2 ^ n → k < fuel → (∀ u, u < x → z_pr (fun p => z_fc f t d e p u) n 0 = z_pr (fun p => z_fc f' t' d e p u) n 0) → fM_sameOdds_5 w fuel 18 (nI d) (nI e) 1 (nI x) = some (if z_same n f t f' t' d e (2 ^ n - 1) = true then 1 else 0) := by
    intro k
    induction k with
    | zero =>
      intro x fuel hx hk hh
      obtain ⟨m, rfl⟩ := z_suc hk
      rw [fM_sameOdds_5, m0, Option.bind_some, z_mAll X, Option.bind_some, if_pos (nI_lt (show 2 ^ n - 1 < x by omega) (by omega)), if_pos (Or.inr rfl), if_pos (z_same_iff.mpr ?_)]
      intro v hv _
      rw [z_point G.2.1 ht hv, z_point G1.2.1 ht' hv]
      exact hh v (by omega)
    | succ k ih =>
      intro x fuel hx hk hh
      obtain ⟨m, rfl⟩ := z_suc hk
      have e0 := z_Mdraws G (x := x) (by omega) (by omega) hd he
      have e1 := z_Mdraws G1 (x := x) (by omega) (by omega) hd he
      rw [show nI 0 = (0 : Int32) from rfl] at e0
      rw [show nI 1 = (1 : Int32) from rfl] at e1
      rw [fM_sameOdds_5, m0, Option.bind_some, z_mAll X, Option.bind_some, if_neg (nI_nlt (show x ≤ 2 ^ n - 1 by omega) (by omega)), if_neg (by decide), e0, Option.bind_some, e1, Option.bind_some, z_inc]
      have b1 := z_prB (f := f) ht hn (d := d) (e := e) (v := x)
      have b2 := z_prB (f := f') ht' hn (d := d) (e := e) (v := x)
      have hq := z_lcmp (a := z_pr (fun p => z_fc f t d e p x) n 0) (b := z_pr (fun p => z_fc f' t' d e p x) n 0) (by omega) (by omega)
      by_cases c : z_pr (fun p => z_fc f t d e p x) n 0 = z_pr (fun p => z_fc f' t' d e p x) n 0
      · rw [if_pos (hq.mpr c)]
        exact ih (x + 1) m (by omega) (by omega) (fun u hu => by
          by_cases q : u = x
          · subst q; exact c
          · exact hh u (by omega))
      · rw [if_neg (fun q => c (hq.mp q)), if_neg (fun q => c (by
          have := z_same_iff.mp q x (by omega) (z_sub_mask.mpr (by omega))
          rw [z_point G.2.1 ht (by omega), z_point G1.2.1 ht' (by omega)] at this
          exact this))]
        obtain ⟨m', rfl⟩ : ∃ m', m = m' + 1 := ⟨m - 1, by omega⟩
        rw [fM_sameOdds_5, m0, Option.bind_some, z_mAll X, Option.bind_some]
        split
        · rfl
        · rfl
  unfold fM_sameOdds
  exact loop (2 ^ n) 0 x_F (by omega) (by unfold x_F; omega) (fun u hu => by omega)
theorem z_MsameWhatever (X : z_mx w n f h) (G : z_mg w 0 n f t) (G1 : z_mg w 1 n f' t') : fM_sameWhatever w 18 = some (if (z_same n f t f' t' 0 0 (2 ^ n - 1) && z_acts n f t f' t') = true then 1 else 0) := by
  obtain ⟨m0, m1, -⟩ := z_X0 X
  have hn := X.2.1
  have stop : ∀ m p, 0 < m → fM_sameWhatever_9 w m 18 0 (nI p) = some 0 := by
    intro m p hm
    obtain ⟨m', rfl⟩ : ∃ m', m = m' + 1 := ⟨m - 1, by omega⟩
    rw [fM_sameWhatever_9, m0, Option.bind_some, m1, Option.bind_some]
    split
    · rfl
    · rfl
  have loop : ∀ k p fuel, p + k = n → k < fuel → (∀ u, u < p → z_same n f t f' t' (2 ^ u) 0 (2 ^ n - 1) = true ∧ z_same n f t f' t' (2 ^ u) (2 ^ u) (2 ^ n - 1) = true) → fM_sameWhatever_9 w fuel 18 1 (nI p) = some (if z_acts n f t f' t' = true then 1 else 0) := by
    intro k
    induction k with
    | zero =>
      intro p fuel hp hk hh
      obtain ⟨m, rfl⟩ := z_suc hk
      rw [fM_sameWhatever_9, m0, Option.bind_some, m1, Option.bind_some, if_pos (nI_le (show n ≤ p by omega) (by omega)), if_pos (Or.inr rfl), if_pos (z_acts_iff.mpr fun u hu => hh u (by omega))]
    | succ k ih =>
      intro p fuel hp hk hh
      obtain ⟨m, rfl⟩ := z_suc hk
      have hp2 : 2 ^ p < 64 := z_h64 hn (z_p2 (show p < n by omega))
      have s0 := z_MsameOdds X G G1 (d := 2 ^ p) (e := 0) hp2 (by omega)
      have s1 := z_MsameOdds X G G1 (d := 2 ^ p) (e := 2 ^ p) hp2 hp2
      rw [show nI 0 = (0 : Int32) from rfl] at s0
      rw [fM_sameWhatever_9, m0, Option.bind_some, m1, Option.bind_some, if_neg (nI_ge (show p < n by omega) (by omega)), if_neg (by decide), z_bit p (by omega), s0, Option.bind_some, s1, z_inc]
      by_cases c : z_same n f t f' t' (2 ^ p) 0 (2 ^ n - 1) = true
      · rw [if_pos c, if_neg (by decide), Option.bind_some]
        by_cases c2 : z_same n f t f' t' (2 ^ p) (2 ^ p) (2 ^ n - 1) = true
        · rw [if_pos c2, if_neg (by decide)]
          exact ih (p + 1) m (by omega) (by omega) (fun u hu => by
            by_cases q : u = p
            · subst q; exact ⟨c, c2⟩
            · exact hh u (by omega))
        · rw [if_neg c2, if_pos rfl, if_neg (fun q => c2 (z_acts_iff.mp q p (by omega)).2)]
          exact stop m (p + 1) (by omega)
      · rw [if_neg c, if_pos rfl, if_neg (fun q => c (z_acts_iff.mp q p (by omega)).1)]
        exact stop m (p + 1) (by omega)
  unfold fM_sameWhatever
  have s0 := z_MsameOdds X G G1 (d := 0) (e := 0) (by omega) (by omega)
  rw [show nI 0 = (0 : Int32) from rfl] at s0
  rw [m0, Option.bind_some, s0, Option.bind_some]
  by_cases c : z_same n f t f' t' 0 0 (2 ^ n - 1) = true
  · rw [if_pos c]
    have l := loop n 0 x_F (by omega) (by unfold x_F; omega) (fun u hu => by omega)
    rw [show nI 0 = (0 : Int32) from rfl] at l
    rw [l, c, Bool.true_and]
  · rw [if_neg c]
    have l := stop x_F 0 (by unfold x_F; omega)
    rw [show nI 0 = (0 : Int32) from rfl] at l
    rw [l]
    have c' : z_same n f t f' t' 0 0 (2 ^ n - 1) = false := by simpa using c
    rw [c', Bool.false_and]
    rfl
theorem z_MsameSeen (X : z_mx w n f h) (G : z_mg w 0 n f t) (G1 : z_mg w 1 n f' t') (hh1 : x_ai w 22 1 = some (nI h')) (hh' : h' < 64) : fM_sameSeen w 18 = some (if z_same n f t f' t' 0 0 (z_both n h h') = true then 1 else 0) := by
  obtain ⟨m0, m1, m2, m3⟩ := z_X0 X
  have hn := X.2.1
  have hh := z_h64 hn X.2.2.2.1
  have h64 : 2 ^ n ≤ 64 := z_pow hn
  have hpn := Nat.two_pow_pos n
  have ht := G.2.2.1
  have ht' := G1.2.2.1
  unfold fM_sameSeen
  rw [m0, Option.bind_some, z_mAll X, Option.bind_some, m2, Option.bind_some, m3, Option.bind_some, hh1, Option.bind_some, z_bothI hn hh hh']
  have hs := z_both_lt (n := n) (h := h) (h' := h')
  generalize z_both n h h' = s at hs ⊢
  have hs64 : s < 64 := by omega
  have inner : ∀ (k27 : Nat → Int32 → Int32 → Int32 → Option Int32) (b : Bool) (v : Nat), v < 64 → v &&& s = v → ∀ k x fuel, x + k = 2 ^ n → k < fuel → fM_sameSeen_52 w k27 fuel 18 (nI s) (if b then 1 else 0) (nI v) (lN (z_sum (z_oF (fun X => z_pr (fun p => z_fc f t 0 0 p X) n 0) (fun X => decide (X &&& s = v) && decide (X &&& s = v))) x)) (lN (z_sum (z_oF (fun X => z_pr (fun p => z_fc f' t' 0 0 p X) n 0) (fun X => decide (X &&& s = v) && decide (X &&& s = v))) x)) (nI x) = k27 18 (nI s) (if (b && decide (z_df f t 0 0 s v 0 0 s v n 0 0 0 = z_df f' t' 0 0 s v 0 0 s v n 0 0 0)) = true then 1 else 0) (nI (v + 1)) := by
    intro k27 b v hv hvs
    have A1 : z_df f t 0 0 s v 0 0 s v n 0 0 0 = z_sum (z_oF (fun X => z_pr (fun p => z_fc f t 0 0 p X) n 0) (fun X => decide (X &&& s = v) && decide (X &&& s = v))) (2 ^ n) := z_df1 G.2.1 ht hs hvs hs hvs
    have A2 : z_df f' t' 0 0 s v 0 0 s v n 0 0 0 = z_sum (z_oF (fun X => z_pr (fun p => z_fc f' t' 0 0 p X) n 0) (fun X => decide (X &&& s = v) && decide (X &&& s = v))) (2 ^ n) := z_df1 G1.2.1 ht' hs hvs hs hvs
    have B1 : z_df f t 0 0 s v 0 0 s v n 0 0 0 ≤ 16 ^ n := z_df_le ht n 0 0 0
    have B2 : z_df f' t' 0 0 s v 0 0 s v n 0 0 0 ≤ 16 ^ n := z_df_le ht' n 0 0 0
    have h16 := z_16n hn
    generalize z_df f t 0 0 s v 0 0 s v n 0 0 0 = D1 at A1 B1 ⊢
    generalize z_df f' t' 0 0 s v 0 0 s v n 0 0 0 = D2 at A2 B2 ⊢
    have hq := z_lcmp (a := D1) (b := D2) (by omega) (by omega)
    intro k
    induction k with
    | zero =>
      intro x fuel hx hk
      obtain ⟨m, rfl⟩ := z_suc hk
      rw [fM_sameSeen_52, m0, Option.bind_some, z_mAll X, Option.bind_some, if_pos (nI_lt (show 2 ^ n - 1 < x by omega) (by omega)), show x = 2 ^ n by omega, ← A1, ← A2, z_inc]
      cases b
      · rw [if_pos (by decide), Bool.false_and, if_neg (by decide)]
      · rw [if_neg (by decide), Bool.true_and]
        by_cases c : D1 = D2
        · rw [if_pos (hq.mpr c), if_pos (decide_eq_true c)]
        · rw [if_neg (fun q => c (hq.mp q)), if_neg (fun q => c (of_decide_eq_true q))]
    | succ k ih =>
      intro x fuel hx hk
      obtain ⟨m, rfl⟩ := z_suc hk
      have next := ih (x + 1) m (by omega) (by omega)
      have a1 := Nat.lt_of_le_of_lt (Nat.and_le_left (n := x) (m := s)) (show x < 64 by omega)
      rw [fM_sameSeen_52, m0, Option.bind_some, z_mAll X, Option.bind_some, if_neg (nI_nlt (show x ≤ 2 ^ n - 1 by omega) (by omega)), z_and, z_inc]
      by_cases c : x &&& s = v
      · have e0 := z_Mdraws G (x := x) (d := 0) (e := 0) (by omega) (by omega) (by omega) (by omega)
        have e1 := z_Mdraws G1 (x := x) (d := 0) (e := 0) (by omega) (by omega) (by omega) (by omega)
        rw [show nI 0 = (0 : Int32) from rfl] at e0 e1
        rw [show nI 1 = (1 : Int32) from rfl] at e1
        rw [if_pos (show nI (x &&& s) = nI v by rw [c]), e0, Option.bind_some, if_pos (show nI (x &&& s) = nI v by rw [c]), e1, Option.bind_some, lN_add, lN_add]
        rw [z_sum, z_sum, z_oF_t (by simp [c]), z_oF_t (by simp [c])] at next
        exact next
      · have c' : ¬ nI (x &&& s) = nI v := fun z => c ((nI_eq (by omega) (by omega)).mp z)
        rw [if_neg c', if_neg c']
        rw [z_sum, z_sum, z_oF_f (by simp [c]), z_oF_f (by simp [c])] at next
        exact next
  have loop : ∀ k v fuel (b : Bool), v + k = 2 ^ n → k < fuel → (b = true ↔ ∀ u, u < v → u &&& s = u → z_df f t 0 0 s u 0 0 s u n 0 0 0 = z_df f' t' 0 0 s u 0 0 s u n 0 0 0) → fM_sameSeen_27 w fuel 18 (nI s) (if b then 1 else 0) (nI v) = some (if z_same n f t f' t' 0 0 s = true then 1 else 0) := by
    intro k
    induction k with
    | zero =>
      intro v fuel b hv hk hb
      obtain ⟨m, rfl⟩ := z_suc hk
      rw [fM_sameSeen_27, m0, Option.bind_some, z_mAll X, Option.bind_some, if_pos (nI_lt (show 2 ^ n - 1 < v by omega) (by omega))]
      rw [show v = 2 ^ n by omega, ← z_same_iff] at hb
      rw [if_pos (show (if b = true then (1 : Int32) else 0) = 0 ∨ (if b = true then (1 : Int32) else 0) = 1 by cases b <;> decide)]
      by_cases c : b = true
      · rw [if_pos c, if_pos (hb.mp c)]
      · rw [if_neg c, if_neg (fun q => c (hb.mpr q))]
    | succ k ih =>
      intro v fuel b hv hk hb
      obtain ⟨m, rfl⟩ := z_suc hk
      rw [fM_sameSeen_27, m0, Option.bind_some, z_mAll X, Option.bind_some, if_neg (nI_nlt (show v ≤ 2 ^ n - 1 by omega) (by omega))]
      have hw := z_within_iff (show v < 64 by omega) hs64
      unfold fA_isWithin at hw
      by_cases c : v &&& s = v
      · rw [if_pos c] at hw
        have c' : nI v &&& (nI s ^^^ (-1)) = 0 := by
          by_cases q : nI v &&& (nI s ^^^ (-1)) = 0
          · exact q
          · rw [if_neg q] at hw; exact absurd hw (by decide)
        rw [if_pos c']
        have i := inner (fM_sameSeen_27 w m) b v (by omega) c (2 ^ n) 0 x_F (by omega) (by unfold x_F; omega)
        refine Eq.trans i (ih (v + 1) m _ (by omega) (by omega) ?_)
        rw [Bool.and_eq_true, decide_eq_true_iff, hb]
        constructor
        · rintro ⟨q1, q2⟩ u hu hus
          by_cases q : u = v
          · subst q; exact q2
          · exact q1 u (by omega) hus
        · intro q
          exact ⟨fun u hu hus => q u (by omega) hus, q v (by omega) c⟩
      · rw [if_neg c] at hw
        have c' : ¬ nI v &&& (nI s ^^^ (-1)) = 0 := fun q => by rw [if_pos q] at hw; exact absurd hw (by decide)
        rw [if_neg c', z_inc]
        refine ih (v + 1) m b (by omega) (by omega) ?_
        rw [hb]
        constructor
        · intro q1 u hu hus
          by_cases q : u = v
          · subst q; exact absurd hus c
          · exact q1 u (by omega) hus
        · intro q u hu hus
          exact q u (by omega) hus
  have l := loop (2 ^ n) 0 x_F true (by omega) (by unfold x_F; omega) ⟨fun _ u hu => by omega, fun _ => rfl⟩
  exact l
end
