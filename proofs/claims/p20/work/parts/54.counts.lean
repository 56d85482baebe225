/-! how many arrows, how many pairs are parted, before: both sides -/
theorem z_sum_swap {g : Nat → Nat → Nat} {m : Nat} : ∀ n, z_sum (fun a => z_sum (fun b => g a b) m) n = z_sum (fun b => z_sum (fun a => g a b) n) m
  | 0 => by
    rw [z_sum]
    exact (z_sum_0 m fun _ _ => rfl).symm
  | n + 1 => by
    rw [z_sum, z_sum_swap n, z_sum_add]
    rfl
theorem z_sum_low {g : Nat → Nat} {b : Nat} : ∀ n, z_sum (fun a => if a < b then g a else 0) n = z_sum g (min n b)
  | 0 => by rw [Nat.zero_min]; rfl
  | n + 1 => by
    rw [z_sum, z_sum_low n]
    by_cases c : n < b
    · rw [if_pos c, show min (n + 1) b = min n b + 1 by omega, z_sum, show min n b = n by omega]
    · rw [if_neg c, Nat.add_zero, show min (n + 1) b = min n b by omega]
def z_pL (f : Nat → Nat) (n i j : Nat) : Int32 := z_ib (z_bs (z_Pp f n (z_but n i j) i j) (z_but n i j + 1) 0 none)
def z_pD (f : Nat → Nat) (n i j : Nat) : Nat := if z_pL f n i j = -1 then 0 else 1
theorem z_pD0 {f : Nat → Nat} {n i j : Nat} (c : z_ib (z_bs (z_Pp f n (z_but n i j) i j) (z_but n i j + 1) 0 none) = -1) : z_pD f n i j = 0 := if_pos c
theorem z_pD1 {f : Nat → Nat} {n i j : Nat} (c : ¬ z_ib (z_bs (z_Pp f n (z_but n i j) i j) (z_but n i j + 1) 0 none) = -1) : z_pD f n i j = 1 := if_neg c
def z_pairs (f : Nat → Nat) (n : Nat) : Nat := z_sum (fun a => z_sum (fun b => if a < b then z_pD f n a b else 0) n) n
section
variable {w : x_W} {g n h : Nat} {f : Nat → Nat} {t : Nat → Nat → Nat}
theorem z_howMany {a : Nat} (H : z_arr w a n f) : fR_howMany w a = some (nI (z_sum (fun p => z_pc (f p)) n)) := by
  obtain ⟨hn, hf, hob, hfi, pa, hfr, hai⟩ := H
  have loop : ∀ k p fuel, p + k = n → k < fuel → fR_howMany_4 w fuel a (nI (z_sum (fun p => z_pc (f p)) p)) (nI p) = some (nI (z_sum (fun p => z_pc (f p)) n)) := by
    intro k
    induction k with
    | zero =>
      intro p fuel hp hk
      obtain ⟨m, rfl⟩ := z_suc hk
      rw [fR_howMany_4, hfi, Option.bind_some, if_pos (nI_le (show n ≤ p by omega) (by omega)), show p = n by omega]
    | succ k ih =>
      intro p fuel hp hk
      obtain ⟨m, rfl⟩ := z_suc hk
      have hlt : p < n := by omega
      rw [fR_howMany_4, hfi, Option.bind_some, if_neg (nI_ge hlt (by omega)), hfr, Option.bind_some, hai p hlt, Option.bind_some, z_bitCount _ (z_h64 (show p ≤ 6 by omega) (hf p hlt)), nI_add, z_inc]
      exact ih (p + 1) m (by omega) (by omega)
  unfold fR_howMany
  exact loop n 0 x_F (by omega) (by unfold x_F; omega)
theorem z_Mcount1 (X : z_mx w n f h) : fM_count_67 x_F w 18 0 0 = some (nI (z_sum (fun p => z_pc (f p)) n), w) := by
  obtain ⟨m0, m1, -⟩ := z_X0 X
  have hn := X.2.1
  have hf := X.2.2.1
  obtain ⟨a1, a2, a3, a4, ⟨cI, pr, lm, a5⟩, ⟨N, a6, a7⟩, ⟨P, a8, a9⟩, -⟩ := X
  have h1 : x_fr w 18 5 1 = some 20 := by rw [z_fr a5]; rfl
  have loop : ∀ k p fuel, p + k = n → k < fuel → fM_count_67 fuel w 18 (nI (z_sum (fun p => z_pc (f p)) p)) (nI p) = some (nI (z_sum (fun p => z_pc (f p)) n), w) := by
    intro k
    induction k with
    | zero =>
      intro p fuel hp hk
      obtain ⟨m, rfl⟩ := z_suc hk
      rw [fM_count_67, m0, Option.bind_some, m1, Option.bind_some, if_pos (nI_le (show n ≤ p by omega) (by omega)), show p = n by omega]
    | succ k ih =>
      intro p fuel hp hk
      obtain ⟨m, rfl⟩ := z_suc hk
      have hlt : p < n := by omega
      rw [fM_count_67, m0, Option.bind_some, m1, Option.bind_some, if_neg (nI_ge hlt (by omega)), h1, Option.bind_some, z_ai a8 (by omega) (by omega), Option.bind_some, a9 p hlt, z_ones (z_h64 (show p ≤ 6 by omega) (hf p hlt)), Option.bind_some, nI_add, z_inc]
      exact ih (p + 1) m (by omega) (by omega)
  exact loop n 0 x_F (by omega) (by unfold x_F; omega)
theorem z_Cpairs (A : z_A w g) (G : z_gc w g n f t h) : fA_howManyPairsParted w 0 = some (nI (z_pairs f n)) := by
  have hn := G.1.2.1
  have inner : ∀ (k4 : Nat → Int32 → Int32 → Option Int32) (a c : Nat), a < n → ∀ k b fuel, b + k = n → k < fuel → a < b → fA_howManyPairsParted_22 w k4 fuel 0 (nI (c + z_sum (fun b => if a < b then z_pD f n a b else 0) b)) (nI a) (nI b) = k4 0 (nI (c + z_sum (fun b => if a < b then z_pD f n a b else 0) n)) (nI (a + 1)) := by
    intro k4 a c ha k
    induction k with
    | zero =>
      intro b fuel hb hk hab
      obtain ⟨m, rfl⟩ := z_suc hk
      rw [fA_howManyPairsParted_22, (z_A0 A).2.1, Option.bind_some, (z_G0 G).2.1, Option.bind_some, (z_G0 G).2.2.2.2.2.1, Option.bind_some, if_pos (nI_le (show n ≤ b by omega) (by omega)), z_inc, show b = n by omega]
    | succ k ih =>
      intro b fuel hb hk hab
      obtain ⟨m, rfl⟩ := z_suc hk
      have hlt : b < n := by omega
      have next := ih (b + 1) m (by omega) (by omega) (by omega)
      rw [z_sum, if_pos hab, ← Nat.add_assoc] at next
      rw [fA_howManyPairsParted_22, (z_A0 A).2.1, Option.bind_some, (z_G0 G).2.1, Option.bind_some, (z_G0 G).2.2.2.2.2.1, Option.bind_some, if_neg (nI_ge hlt (by omega)), z_Cleast A G ha hlt, Option.bind_some, z_inc, z_inc]
      by_cases c1 : z_ib (z_bs (z_Pp f n (z_but n a b) a b) (z_but n a b + 1) 0 none) = -1
      · rw [z_pD0 c1, Nat.add_zero] at next
        rw [if_pos c1]
        exact next
      · rw [z_pD1 c1] at next
        rw [if_neg c1]
        exact next
  have outer : ∀ k a fuel, a + k = n → k < fuel → fA_howManyPairsParted_4 w fuel 0 (nI (z_sum (fun a => z_sum (fun b => if a < b then z_pD f n a b else 0) n) a)) (nI a) = some (nI (z_pairs f n)) := by
    intro k
    induction k with
    | zero =>
      intro a fuel ha hk
      obtain ⟨m, rfl⟩ := z_suc hk
      rw [fA_howManyPairsParted_4, (z_A0 A).2.1, Option.bind_some, (z_G0 G).2.1, Option.bind_some, (z_G0 G).2.2.2.2.2.1, Option.bind_some, if_pos (nI_le (show n ≤ a by omega) (by omega)), show a = n by omega]
      rfl
    | succ k ih =>
      intro a fuel ha hk
      obtain ⟨m, rfl⟩ := z_suc hk
      have hlt : a < n := by omega
      rw [fA_howManyPairsParted_4, (z_A0 A).2.1, Option.bind_some, (z_G0 G).2.1, Option.bind_some, (z_G0 G).2.2.2.2.2.1, Option.bind_some, if_neg (nI_ge hlt (by omega)), z_inc]
      have i := inner (fA_howManyPairsParted_4 w m) a (z_sum (fun a => z_sum (fun b => if a < b then z_pD f n a b else 0) n) a) hlt (n - (a + 1)) (a + 1) x_F (by omega) (by unfold x_F; omega) (by omega)
      rw [z_sum_0 (g := fun b => if a < b then z_pD f n a b else 0) (a + 1) (fun b hb => by rw [if_neg (by omega)]), Nat.add_zero] at i
      exact i.trans (ih (a + 1) m (by omega) (by omega))
  unfold fA_howManyPairsParted
  exact outer n 0 x_F (by omega) (by unfold x_F; omega)
theorem z_pairs_eq : z_pairs f n = z_sum (fun b => z_sum (fun a => z_pD f n a b) b) n := by
  unfold z_pairs
  rw [z_sum_swap]
  refine z_sum_congr _ fun b hb => ?_
  rw [z_sum_low (g := fun a => z_pD f n a b), show min n b = b by omega]
def z_k23 (w w' : x_W) (n : Nat) (f : Nat → Nat) (h : Nat) : Prop := z_mx w' n f h ∧ z_mw w' 0 n f ∧ ∀ k, k ≠ 23 → w'[k]? = w[k]?
theorem z_k23_t {w w' w'' : x_W} (K : z_k23 w w' n f h) (K' : z_k23 w' w'' n f h) : z_k23 w w'' n f h := ⟨K'.1, K'.2.1, fun k hk => by rw [K'.2.2 k hk, K.2.2 k hk]⟩
theorem z_Mpairs (X : z_mx w n f h) (H : z_mw w 0 n f) : ∃ w', fM_partedPairs w 18 = some (nI (z_pairs f n), w') ∧ z_k23 w w' n f h := by
  have hn := X.2.1
  rw [z_pairs_eq]
  have inner : ∀ (k4 : x_W → Nat → Int32 → Int32 → Option (Int32 × x_W)) (b c : Nat), b < n → ∀ k a fuel (w : x_W), a + k = b → k < fuel → z_mx w n f h → z_mw w 0 n f → ∃ w', fM_partedPairs_14 k4 fuel w 18 (nI (c + z_sum (fun a => z_pD f n a b) a)) (nI b) (nI a) = k4 w' 18 (nI (c + z_sum (fun a => z_pD f n a b) b)) (nI (b + 1)) ∧ z_k23 w w' n f h := by
    intro k4 b c hb k
    induction k with
    | zero =>
      intro a fuel w ha hk X H
      obtain ⟨m, rfl⟩ := z_suc hk
      refine ⟨w, ?_, X, H, fun _ _ => rfl⟩
      rw [fM_partedPairs_14, if_pos (nI_le (show b ≤ a by omega) (by omega)), z_inc, show a = b by omega]
    | succ k ih =>
      intro a fuel w ha hk X H
      obtain ⟨m, rfl⟩ := z_suc hk
      have hlt : a < b := by omega
      obtain ⟨w1, r1, r2, r3, r4⟩ := z_Mleast X H (show a < n by omega) hb (by omega)
      have e : z_Pp (z_ct f 0) n (z_but n a b) a b = z_Pp f n (z_but n a b) a b := funext fun s => z_Pp0 X (by omega)
      rw [e] at r1
      obtain ⟨w', s1, s2⟩ := ih (a + 1) m w1 (by omega) (by omega) r2 r3
      refine ⟨w', ?_, z_k23_t ⟨r2, r3, r4⟩ s2⟩
      rw [fM_partedPairs_14, if_neg (nI_ge hlt (by omega)), (z_X0 X).1, Option.bind_some, r1, Option.bind_some]
      dsimp only
      rw [z_inc, z_inc]
      rw [z_sum, ← Nat.add_assoc] at s1
      by_cases c1 : z_ib (z_bs (z_Pp f n (z_but n a b) a b) (z_but n a b + 1) 0 none) = -1
      · rw [z_pD0 c1, Nat.add_zero] at s1
        rw [if_pos c1]
        exact s1
      · rw [z_pD1 c1] at s1
        rw [if_neg c1]
        exact s1
  have outer : ∀ k b fuel (w : x_W), b + k = n → k < fuel → z_mx w n f h → z_mw w 0 n f → ∃ w', fM_partedPairs_4 fuel w 18 (nI (z_sum (fun b => z_sum (fun a => z_pD f n a b) b) b)) (nI b) = some (nI (z_sum (fun b => z_sum (fun a => z_pD f n a b) b) n), w') ∧ z_k23 w w' n f h := by
    intro k
    induction k with
    | zero =>
      intro b fuel w hb hk X H
      obtain ⟨m, rfl⟩ := z_suc hk
      obtain ⟨m0, m1, -⟩ := z_X0 X
      refine ⟨w, ?_, X, H, fun _ _ => rfl⟩
      rw [fM_partedPairs_4, m0, Option.bind_some, m1, Option.bind_some, if_pos (nI_le (show n ≤ b by omega) (by omega)), show b = n by omega]
    | succ k ih =>
      intro b fuel w hb hk X H
      obtain ⟨m, rfl⟩ := z_suc hk
      obtain ⟨m0, m1, -⟩ := z_X0 X
      have hlt : b < n := by omega
      rw [fM_partedPairs_4, m0, Option.bind_some, m1, Option.bind_some, if_neg (nI_ge hlt (by omega))]
      obtain ⟨w1, r1, r2⟩ := inner (fM_partedPairs_4 m) b (z_sum (fun b => z_sum (fun a => z_pD f n a b) b) b) hlt b 0 x_F w (by omega) (by unfold x_F; omega) X H
      obtain ⟨w', s1, s2⟩ := ih (b + 1) m w1 (by omega) (by omega) r2.1 r2.2.1
      exact ⟨w', r1.trans s1, z_k23_t r2 s2⟩
  unfold fM_partedPairs
  exact outer n 0 x_F w (by omega) (by unfold x_F; omega) X H
theorem z_Mbefore (X : z_mx w n f h) (H : z_mw w 0 n f) {p : Nat} (hp : p < n) : fM_before w 18 (nI p) = some (nI (z_bf f p (f p))) := by
  obtain ⟨m0, m1, -⟩ := z_X0 X
  have hn := X.2.1
  have hf := X.2.2.1
  rw [z_bf_after hn hf hp]
  have loop : ∀ k q fuel, q + k = n → k < fuel → fM_before_4 w fuel 18 (nI p) (nI (z_mk (fun q => (z_rc f 63 q n).testBit p) q)) (nI q) = some (nI (z_mk (fun q => (z_rc f 63 q n).testBit p) n)) := by
    intro k
    induction k with
    | zero =>
      intro q fuel hq hk
      obtain ⟨m, rfl⟩ := z_suc hk
      rw [fM_before_4, m0, Option.bind_some, m1, Option.bind_some, if_pos (nI_le (show n ≤ q by omega) (by omega)), show q = n by omega]
    | succ k ih =>
      intro q fuel hq hk
      obtain ⟨m, rfl⟩ := z_suc hk
      have hlt : q < n := by omega
      have next := ih (q + 1) m (by omega) (by omega)
      have rr : z_rc (z_ct f 0) 63 q n = z_rc f 63 q n := z_rc_congr n (fun k hk => z_ct0 hn hf hk)
      have l1 := z_h64 hn (z_rc_lt (f := f) 63 q n)
      rw [fM_before_4, m0, Option.bind_some, m1, Option.bind_some, if_neg (nI_ge hlt (by omega)), z_Mafter H hlt, Option.bind_some, rr, z_has01 l1 (by omega), z_bit q (by omega), z_or, z_inc]
      rw [z_mk] at next
      cases c : (z_rc f 63 q n).testBit p
      · rw [if_pos (by rw [z_010])]
        rw [if_neg (by rw [c]; decide), Nat.or_zero] at next
        exact next
      · rw [if_neg (fun e => by rw [z_010] at e; cases e)]
        rw [if_pos c] at next
        exact next
  unfold fM_before
  exact loop n 0 x_F (by omega) (by unfold x_F; omega)
end
