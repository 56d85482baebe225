/-! the reference's draws are products -/
theorem z_pr_snoc {φ : Nat → Nat} : ∀ k p, z_pr φ (k + 1) p = z_pr φ k p * φ (p + k)
  | 0, p => by
    show φ p * 1 = 1 * φ (p + 0)
    rw [Nat.one_mul, Nat.mul_one]; rfl
  | k + 1, p => by rw [z_pr, z_pr_snoc k (p + 1), z_pr, Nat.mul_assoc, show p + 1 + k = p + (k + 1) by omega]
def z_mg (w : x_W) (g n : Nat) (f : Nat → Nat) (t : Nat → Nat → Nat) : Prop := n ≤ 6 ∧ (∀ p, p < n → f p < 2 ^ p) ∧ (∀ p v, t p v ≤ 16) ∧ x_fr w 18 5 0 = some 19 ∧ x_fr w 18 5 1 = some 20 ∧ x_fr w 18 5 2 = some 21 ∧ x_ai w 19 (nI g) = some (nI n) ∧ (∀ p, p < n → x_ai w 20 (nI (6 * g + p)) = some (nI (f p))) ∧ ∀ p, p < n → ∀ v, v < 64 → v &&& f p = v → x_ai w 21 (nI ((6 * g + p) * 64 + v)) = some (nI (t p v))
theorem z_l {c : Nat} (h : c < 2 ^ 31) : (nI c).toInt64 = lN c := nI_l h
theorem z_sbe {s k : Nat} (hs : s < 64) (hk : k < 6) : (nI s >>> (nI k &&& 31)) &&& 1 = nI (z_bt s k) := z_sb s hs k hk
theorem z_btI {s k : Nat} : nI (z_bt s k) = 1 ↔ s.testBit k = true := by
  unfold z_bt
  cases s.testBit k <;> simp <;> decide
section
variable {w : x_W} {n : Nat} {f : Nat → Nat} {t : Nat → Nat → Nat}
theorem z_Mdraws {g x d e : Nat} (G : z_mg w g n f t) (hg : g < 2) (hx : x < 64) (hd : d < 64) (he : e < 64) : fM_draws w 18 (nI g) (nI x) (nI d) (nI e) = some (lN (z_pr (fun p => z_fc f t d e p x) n 0)) := by
  obtain ⟨hn, hf, ht, g0, g1, g2, g3, g4, g5⟩ := G
  have loop : ∀ k p fuel, p + k = n → k < fuel → fM_draws_6 w fuel 18 (nI g) (nI x) (nI d) (nI e) (lN (z_pr (fun p => z_fc f t d e p x) p 0)) (nI p) = some (lN (z_pr (fun p => z_fc f t d e p x) n 0)) := by
    intro k
    induction k with
    | zero =>
      intro p fuel hp hk
      obtain ⟨m, rfl⟩ := z_suc hk
      rw [fM_draws_6, g0, Option.bind_some, g3, Option.bind_some, if_pos (nI_le (by omega) (by omega)), show p = n by omega]
    | succ k ih =>
      intro p fuel hp hk
      obtain ⟨m, rfl⟩ := z_suc hk
      have hlt : p < n := by omega
      have next := ih (p + 1) m (by omega) (by omega)
      rw [z_pr_snoc, Nat.zero_add, ← lN_mul] at next
      have hv : x &&& f p < 64 := Nat.lt_of_le_of_lt Nat.and_le_left hx
      rw [fM_draws_6, g0, Option.bind_some, g3, Option.bind_some, if_neg (nI_ge hlt (by omega)), g2, Option.bind_some, g1, Option.bind_some, show (6 : Int32) = nI 6 from rfl, pk_mul, nI_add, g4 p hlt, Option.bind_some, show (64 : Int32) = nI 64 from rfl, pk_mul, z_and, nI_add, g5 p hlt _ hv (by rw [Nat.and_assoc, Nat.and_self]), Option.bind_some, z_hasM _ hd _ (by omega), z_sbe hx (by omega), z_sbe he (by omega), z_inc]
      have ha := ht p (x &&& f p)
      have e16 : (16 : Int32) - nI (t p (x &&& f p)) = nI (16 - t p (x &&& f p)) := by
        rw [show (16 : Int32) = nI 16 from rfl, pk_sub ha]
      rw [e16, z_l (by omega), z_l (by omega), show (16 : Int32).toInt64 = lN 16 from rfl, show (0 : Int32).toInt64 = lN 0 from rfl]
      have fin : ∀ c, c = z_fc f t d e p x → fM_draws_6 w m 18 (nI g) (nI x) (nI d) (nI e) (lN (z_pr (fun p => z_fc f t d e p x) p 0) * lN c) (nI (p + 1)) = some (lN (z_pr (fun p => z_fc f t d e p x) n 0)) := fun c hc => by rw [hc]; exact next
      cases k1 : d.testBit p
      · cases k2 : x.testBit p
        · have : ¬ nI (z_bt x p) = 1 := fun q => by rw [z_btI, k2] at q; cases q
          simp only [Bool.false_eq_true, if_false, if_true, this]
          exact fin _ (by unfold z_fc z_wi; simp [k1, k2])
        · have : nI (z_bt x p) = 1 := z_btI.mpr k2
          simp only [Bool.false_eq_true, if_false, if_true, this]
          exact fin _ (by unfold z_fc z_wi; simp [k1, k2])
      · cases k2 : x.testBit p <;> cases k3 : e.testBit p
        · have : nI (z_bt x p) = nI (z_bt e p) := by unfold z_bt; rw [k2, k3]
          simp only [if_true, this]
          rw [if_neg (by decide)]
          exact fin _ (by unfold z_fc z_wi; simp [k1, k2, k3])
        · have : ¬ nI (z_bt x p) = nI (z_bt e p) := by unfold z_bt; rw [k2, k3]; decide
          simp only [if_true, if_neg this]
          rw [if_neg (by decide)]
          exact fin _ (by unfold z_fc z_wi; simp [k1, k2, k3])
        · have : ¬ nI (z_bt x p) = nI (z_bt e p) := by unfold z_bt; rw [k2, k3]; decide
          simp only [if_true, if_neg this]
          rw [if_neg (by decide)]
          exact fin _ (by unfold z_fc z_wi; simp [k1, k2, k3])
        · have : nI (z_bt x p) = nI (z_bt e p) := by unfold z_bt; rw [k2, k3]
          simp only [if_true, this]
          rw [if_neg (by decide)]
          exact fin _ (by unfold z_fc z_wi; simp [k1, k2, k3])
  unfold fM_draws
  rw [show (0 : Int32) = nI 0 from rfl, show (1 : Int64) = lN 1 from rfl]
  exact loop n 0 x_F (by omega) (by unfold x_F; omega)
def z_tw (low high v u : Int32) : Int32 := if high ≤ low then (if v = 1 then (if u = 1 then high else low - high) else (if u = 1 then high - high else 16 - low - high + high)) else (if v = 1 then (if u = 1 then low else low - low) else (if u = 1 then high - low else 16 - low - high + low))
theorem z_tw_split (G : Int64 → Option Int64) (low high v u : Int32) (M : Int64) : (if high ≤ low then (if v = 1 then (if u = 1 then G (M * high.toInt64) else G (M * (low - high).toInt64)) else (if u = 1 then G (M * (high - high).toInt64) else G (M * (16 - low - high + high).toInt64))) else (if v = 1 then (if u = 1 then G (M * low.toInt64) else G (M * (low - low).toInt64)) else (if u = 1 then G (M * (high - low).toInt64) else G (M * (16 - low - high + low).toInt64)))) = G (M * (z_tw low high v u).toInt64) := by
  unfold z_tw
  split <;> split <;> split <;> rfl
theorem z_twN : ∀ a, a < 17 → ∀ b, b < 2 → ∀ c, c < 17 → ∀ d, d < 2 → z_tw (nI a) (nI c) (nI b) (nI d) = nI (z_nf a b c d) := by decide +kernel
theorem z_bt2 (X p : Nat) : z_bt X p < 2 := by unfold z_bt; split <;> omega
theorem z_pr_le {φ : Nat → Nat} (h : ∀ p, φ p ≤ 16) : ∀ k p, z_pr φ k p ≤ 16 ^ k
  | 0, _ => Nat.le_refl _
  | k + 1, p => by
    rw [z_pr, Nat.pow_succ, Nat.mul_comm]
    exact Nat.mul_le_mul (z_pr_le h k (p + 1)) (h p)
theorem z_lle {m : Nat} (h : m < 2 ^ 63) : lg_cmp (lN m) 0 ≤ 0 ↔ m = 0 := by
  rw [lg_cmp_le, show (0 : Int64) = lN 0 from rfl, pk_lLE h (by omega)]
  omega
theorem z_pr_z {φ : Nat → Nat} {p k : Nat} (h : z_pr φ p 0 = 0) : z_pr φ (p + k) 0 = 0 := by
  induction k with
  | zero => exact h
  | succ k ih => rw [← Nat.add_assoc, z_pr_snoc, ih, Nat.zero_mul]
set_option maxHeartbeats 2000000 in
theorem z_Mtwo {x d e y d2 e2 : Nat} (G : z_mg w 0 n f t) (hob : x_ob w 18 5 = some ()) (hN : fM_n w 18 = some (nI n)) (hx : x < 64) (hd : d < 64) (he : e < 64) (hy : y < 64) (hd2 : d2 < 64) (he2 : e2 < 64) : fM_twoDraws w 18 (nI x) (nI d) (nI e) (nI y) (nI d2) (nI e2) = some (lN (z_pr (fun p => z_nf (z_wi d e p (t p (x &&& f p))) (z_bt x p) (z_wi d2 e2 p (t p (y &&& f p))) (z_bt y p)) n 0)) := by
  obtain ⟨hn, hf, ht, g0, g1, g2, g3, g4, g5⟩ := G
  have hle : ∀ p, z_nf (z_wi d e p (t p (x &&& f p))) (z_bt x p) (z_wi d2 e2 p (t p (y &&& f p))) (z_bt y p) ≤ 16 := fun p => z_nf_le _ (Nat.lt_succ_of_le (z_wi_le (ht _ _))) _ (z_bt2 x p) _ (Nat.lt_succ_of_le (z_wi_le (ht _ _))) _ (z_bt2 y p)
  have loop : ∀ k p fuel, p + k = n → k < fuel → fM_twoDraws_6 w fuel 18 (nI x) (nI d) (nI e) (nI y) (nI d2) (nI e2) (lN (z_pr (fun p => z_nf (z_wi d e p (t p (x &&& f p))) (z_bt x p) (z_wi d2 e2 p (t p (y &&& f p))) (z_bt y p)) p 0)) (nI p) = some (lN (z_pr (fun p => z_nf (z_wi d e p (t p (x &&& f p))) (z_bt x p) (z_wi d2 e2 p (t p (y &&& f p))) (z_bt y p)) n 0)) := by
    intro k
    induction k with
    | zero =>
      intro p fuel hp hk
      obtain ⟨m, rfl⟩ := z_suc hk
      rw [fM_twoDraws_6, hob, Option.bind_some, hN, Option.bind_some, if_pos (nI_le (by omega) (by omega)), show p = n by omega]
    | succ k ih =>
      intro p fuel hp hk
      obtain ⟨m, rfl⟩ := z_suc hk
      have hlt : p < n := by omega
      have next := ih (p + 1) m (by omega) (by omega)
      rw [z_pr_snoc, Nat.zero_add, ← lN_mul] at next
      have hM : z_pr (fun p => z_nf (z_wi d e p (t p (x &&& f p))) (z_bt x p) (z_wi d2 e2 p (t p (y &&& f p))) (z_bt y p)) p 0 < 2 ^ 63 := by
        have h1 := z_pr_le (φ := fun p => z_nf (z_wi d e p (t p (x &&& f p))) (z_bt x p) (z_wi d2 e2 p (t p (y &&& f p))) (z_bt y p)) hle p 0
        have h2 : 16 ^ p ≤ 16 ^ 6 := Nat.pow_le_pow_right (by omega) (by omega)
        omega
      rw [fM_twoDraws_6, hob, Option.bind_some, hN, Option.bind_some, if_neg (nI_ge hlt (by omega))]
      by_cases c0 : z_pr (fun p => z_nf (z_wi d e p (t p (x &&& f p))) (z_bt x p) (z_wi d2 e2 p (t p (y &&& f p))) (z_bt y p)) p 0 = 0
      · rw [if_pos ((z_lle hM).mpr c0), c0, ← hp, z_pr_z c0]
      · rw [if_neg (fun q => c0 ((z_lle hM).mp q))]
        generalize hMM : lN (z_pr (fun p => z_nf (z_wi d e p (t p (x &&& f p))) (z_bt x p) (z_wi d2 e2 p (t p (y &&& f p))) (z_bt y p)) p 0) = M at next ⊢
        have g4p := g4 p hlt
        rw [Nat.mul_zero, Nat.zero_add] at g4p
        have g5p := g5 p hlt
        rw [Nat.mul_zero, Nat.zero_add] at g5p
        rw [g2, Option.bind_some, g1, Option.bind_some, g4p, Option.bind_some, show (64 : Int32) = nI 64 from rfl, pk_mul, z_and, z_and, nI_add, nI_add, g5p _ (Nat.lt_of_le_of_lt Nat.and_le_left hx) (by rw [Nat.and_assoc, Nat.and_self]), Option.bind_some, g5p _ (Nat.lt_of_le_of_lt Nat.and_le_left hy) (by rw [Nat.and_assoc, Nat.and_self]), Option.bind_some, z_hasM _ hd _ (by omega), z_hasM _ hd2 _ (by omega), z_sbe hx (by omega), z_sbe he (by omega), z_sbe hy (by omega), z_sbe he2 (by omega), z_inc]
        have ha := ht p (x &&& f p)
        have hc := ht p (y &&& f p)
        have w1 : ∀ E : Nat, nI (z_bt E p) * 16 = nI (if E.testBit p then 16 else 0) := by
          intro E
          unfold z_bt
          cases E.testBit p <;> decide
        rw [w1, w1]
        have fin : ∀ low high : Nat, low < 17 → high < 17 → low = z_wi d e p (t p (x &&& f p)) → high = z_wi d2 e2 p (t p (y &&& f p)) → fM_twoDraws_6 w m 18 (nI x) (nI d) (nI e) (nI y) (nI d2) (nI e2) (M * (z_tw (nI low) (nI high) (nI (z_bt x p)) (nI (z_bt y p))).toInt64) (nI (p + 1)) = some (lN (z_pr (fun p => z_nf (z_wi d e p (t p (x &&& f p))) (z_bt x p) (z_wi d2 e2 p (t p (y &&& f p))) (z_bt y p)) n 0)) := by
          intro low high h1 h2 e1 e2'
          rw [z_twN low h1 _ (z_bt2 x p) high h2 _ (z_bt2 y p), z_l (Nat.lt_of_le_of_lt (z_nf_le low h1 _ (z_bt2 x p) high h2 _ (z_bt2 y p)) (by omega)), e1, e2']
          exact next
        have i16 : ∀ E : Nat, (if E.testBit p then 16 else 0) < 17 := fun E => by split <;> omega
        cases k1 : d.testBit p <;> cases k2 : d2.testBit p
        · rw [if_pos (by decide), if_pos (by decide)]
          exact (z_tw_split (fun M' => fM_twoDraws_6 w m 18 (nI x) (nI d) (nI e) (nI y) (nI d2) (nI e2) M' (nI (p + 1))) _ _ _ _ M).trans (fin _ _ (by omega) (by omega) (by unfold z_wi; rw [k1]; rfl) (by unfold z_wi; rw [k2]; rfl))
        · rw [if_pos (by decide), if_neg (by decide)]
          exact (z_tw_split (fun M' => fM_twoDraws_6 w m 18 (nI x) (nI d) (nI e) (nI y) (nI d2) (nI e2) M' (nI (p + 1))) _ _ _ _ M).trans (fin _ _ (by omega) (i16 e2) (by unfold z_wi; rw [k1]; rfl) (by unfold z_wi; rw [k2]; rfl))
        · rw [if_neg (by decide), if_pos (by decide)]
          exact (z_tw_split (fun M' => fM_twoDraws_6 w m 18 (nI x) (nI d) (nI e) (nI y) (nI d2) (nI e2) M' (nI (p + 1))) _ _ _ _ M).trans (fin _ _ (i16 e) (by omega) (by unfold z_wi; rw [k1]; rfl) (by unfold z_wi; rw [k2]; rfl))
        · rw [if_neg (by decide), if_neg (by decide)]
          exact (z_tw_split (fun M' => fM_twoDraws_6 w m 18 (nI x) (nI d) (nI e) (nI y) (nI d2) (nI e2) M' (nI (p + 1))) _ _ _ _ M).trans (fin _ _ (i16 e) (i16 e2) (by unfold z_wi; rw [k1]; rfl) (by unfold z_wi; rw [k2]; rfl))
  unfold fM_twoDraws
  rw [show (0 : Int32) = nI 0 from rfl, show (1 : Int64) = lN 1 from rfl]
  exact loop n 0 x_F (by omega) (by unfold x_F; omega)
end
