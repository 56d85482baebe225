/-! the law's loop, and the law -/
theorem z_neg8 : ∀ a, a < 8 → nI a - 8 < 0 := by decide +kernel
theorem z_l8 {a v : Nat} (ha : a ≤ 4096) (hv : v ≤ 5000) : (Int32.ofNat a - 8 < nI v) ↔ a < v + 8 := by
  show (nI a - 8 < nI v) ↔ _
  by_cases c : a < 8
  · have h1 := z_neg8 a c
    have h2 : (0 : Int32) ≤ nI v := by
      rw [show (0 : Int32) = nI 0 from rfl]
      exact nI_le (Nat.zero_le v) (by omega)
    exact ⟨fun _ => by omega, fun _ => Int32.lt_of_lt_of_le h1 h2⟩
  · rw [show (8 : Int32) = nI 8 from rfl, pk_sub (by omega)]
    constructor
    · intro h
      apply Classical.byContradiction
      intro q
      exact nI_nlt (a := a - 8) (b := v) (by omega) (by omega) h
    · intro h
      exact nI_lt (by omega) (by omega)
theorem z_in8 {L v : Nat} (j : Nat) (h : v + j < L) (hL : L ≤ 4096) : ¬ (nI v + nI j < 0 ∨ L ≤ (nI v + nI j).toNatClampNeg) := by
  rw [nI_add]
  exact nI_in h (by omega)
theorem z_obA {w : x_W} (R : z_rel w) : x_ob w 0 0 = some () := by
  obtain ⟨n, f, t, h, n', f', t', h', ⟨g, A, G, G', S⟩, M⟩ := R
  exact (z_A0 A).1
theorem z_loop {L : Nat} {xs : Nat → Int32} (hL : L ≤ 4096) : ∀ k v fuel (w : x_W), L ≤ v + k → k < fuel → v ≤ 5000 → z_rel w → fL_law_18 L xs fuel w 0 18 (nI v) = some 1 := by
  intro k
  induction k with
  | zero =>
    intro v fuel w hv hf h5 R
    obtain ⟨m, rfl⟩ := z_suc hf
    rw [fL_law_18, if_pos ((z_l8 hL h5).mpr (by omega))]
  | succ k ih =>
    intro v fuel w hv hf h5 R
    obtain ⟨m, rfl⟩ := z_suc hf
    by_cases c : L < v + 8
    · rw [fL_law_18, if_pos ((z_l8 hL h5).mpr c)]
    have b0 : ¬ (nI v < 0 ∨ L ≤ (nI v).toNatClampNeg) := nI_in (show v < L by omega) (by omega)
    have go : ∀ w2, z_rel w2 → fL_law_18 L xs m w2 0 18 (nI v + 8) = some 1 := by
      intro w2 R2
      rw [show nI v + 8 = nI (v + 8) from nI_add v 8]
      exact ih (v + 8) m w2 (by omega) (by omega) (by omega) R2
    have o1 := z_obA R
    have b1 : ¬ (nI v + 1 < 0 ∨ L ≤ (nI v + 1).toNatClampNeg) := z_in8 1 (by omega) hL
    have b2 : ¬ (nI v + 2 < 0 ∨ L ≤ (nI v + 2).toNatClampNeg) := z_in8 2 (by omega) hL
    have b3 : ¬ (nI v + 3 < 0 ∨ L ≤ (nI v + 3).toNatClampNeg) := z_in8 3 (by omega) hL
    have b4 : ¬ (nI v + 4 < 0 ∨ L ≤ (nI v + 4).toNatClampNeg) := z_in8 4 (by omega) hL
    have b5 : ¬ (nI v + 5 < 0 ∨ L ≤ (nI v + 5).toNatClampNeg) := z_in8 5 (by omega) hL
    have b6 : ¬ (nI v + 6 < 0 ∨ L ≤ (nI v + 6).toNatClampNeg) := z_in8 6 (by omega) hL
    have b7 : ¬ (nI v + 7 < 0 ∨ L ≤ (nI v + 7).toNatClampNeg) := z_in8 7 (by omega) hL
    rw [fL_law_18, if_neg (fun q => c ((z_l8 hL h5).mp q)), if_neg b0]
    by_cases c0 : xs (nI v).toNatClampNeg &&& 31 = 0
    · rw [if_pos c0, if_neg b1, o1, Option.bind_some]
      obtain ⟨r, w1, w2, a1, a2, a3, a4⟩ := z_Lbegin R (xs (nI v + 1).toNatClampNeg)
      dsimp only at a3
      rw [a1, Option.bind_some, a2, Option.bind_some, a3, Option.bind_some]
      first | exact go _ a4 | (rw [if_pos rfl]; exact go _ a4)
    rw [if_neg c0]
    by_cases c1 : xs (nI v).toNatClampNeg &&& 31 = 1
    · rw [if_pos c1, if_neg b1, if_neg b2, o1, Option.bind_some]
      obtain ⟨r, w1, w2, a1, a2, a3, a4⟩ := z_Lparents R (xs (nI v + 1).toNatClampNeg) (xs (nI v + 2).toNatClampNeg)
      dsimp only at a3
      rw [a1, Option.bind_some, a2, Option.bind_some, a3, Option.bind_some]
      first | exact go _ a4 | (rw [if_pos rfl]; exact go _ a4)
    rw [if_neg c1]
    by_cases c2 : xs (nI v).toNatClampNeg &&& 31 = 2
    · rw [if_pos c2, if_neg b1, if_neg b2, if_neg b3, o1, Option.bind_some]
      obtain ⟨r, w1, w2, a1, a2, a3, a4⟩ := z_Lweight R (xs (nI v + 1).toNatClampNeg) (xs (nI v + 2).toNatClampNeg) (xs (nI v + 3).toNatClampNeg)
      dsimp only at a3
      rw [a1, Option.bind_some, a2, Option.bind_some, a3, Option.bind_some]
      first | exact go _ a4 | (rw [if_pos rfl]; exact go _ a4)
    rw [if_neg c2]
    by_cases c3 : xs (nI v).toNatClampNeg &&& 31 = 3
    · rw [if_pos c3, if_neg b1, if_neg b2]
      by_cases d : xs (nI v + 2).toNatClampNeg = 0
      · rw [if_pos d, o1, Option.bind_some]
        obtain ⟨r, w1, w2, a1, a2, a3, a4⟩ := z_Lhide R (xs (nI v + 1).toNatClampNeg) 0
        dsimp only at a3
        rw [a1, Option.bind_some, if_pos d, a2, Option.bind_some, a3, Option.bind_some]
        first | exact go _ a4 | (rw [if_pos rfl]; exact go _ a4)
      · rw [if_neg d, o1, Option.bind_some]
        obtain ⟨r, w1, w2, a1, a2, a3, a4⟩ := z_Lhide R (xs (nI v + 1).toNatClampNeg) 1
        dsimp only at a3
        rw [a1, Option.bind_some, if_neg d, a2, Option.bind_some, a3, Option.bind_some]
        first | exact go _ a4 | (rw [if_pos rfl]; exact go _ a4)
    rw [if_neg c3]
    by_cases c4 : xs (nI v).toNatClampNeg &&& 31 = 4
    · rw [if_pos c4, if_neg b1, o1, Option.bind_some]
      obtain ⟨r, w1, w2, a1, a2, a3, a4⟩ := z_LcountF R (xs (nI v + 1).toNatClampNeg)
      dsimp only at a3
      rw [a1, Option.bind_some, a2, Option.bind_some, a3, Option.bind_some]
      first | exact go _ a4 | (rw [if_pos rfl]; exact go _ a4)
    rw [if_neg c4]
    by_cases c5 : xs (nI v).toNatClampNeg &&& 31 = 5
    · rw [if_pos c5, if_neg b1, if_neg b2, o1, Option.bind_some]
      obtain ⟨r, w1, w2, a1, a2, a3, a4⟩ := z_LofF R (xs (nI v + 1).toNatClampNeg) (xs (nI v + 2).toNatClampNeg)
      dsimp only at a3
      rw [a1, Option.bind_some, a2, Option.bind_some, a3, Option.bind_some]
      first | exact go _ a4 | (rw [if_pos rfl]; exact go _ a4)
    rw [if_neg c5]
    by_cases c6 : xs (nI v).toNatClampNeg &&& 31 = 6
    · rw [if_pos c6, if_neg b1, if_neg b2, if_neg b3, o1, Option.bind_some]
      obtain ⟨r, w2, a1, a2, a3, a4⟩ := z_Lparted R (xs (nI v + 1).toNatClampNeg) (xs (nI v + 2).toNatClampNeg) (xs (nI v + 3).toNatClampNeg)
      rw [a1, Option.bind_some, a2, Option.bind_some, a3, Option.bind_some]
      first | exact go _ a4 | (rw [if_pos rfl]; exact go _ a4)
    rw [if_neg c6]
    by_cases c7 : xs (nI v).toNatClampNeg &&& 31 = 7
    · rw [if_pos c7, if_neg b1, if_neg b2, o1, Option.bind_some]
      obtain ⟨r, w2, a1, a2, a3, a4⟩ := z_Lparting R (xs (nI v + 1).toNatClampNeg) (xs (nI v + 2).toNatClampNeg)
      rw [a1, Option.bind_some, a2, Option.bind_some, a3, Option.bind_some]
      first | exact go _ a4 | (rw [if_pos rfl]; exact go _ a4)
    rw [if_neg c7]
    by_cases c8 : xs (nI v).toNatClampNeg &&& 31 = 8
    · rw [if_pos c8, if_neg b1, if_neg b2, if_neg b3, o1, Option.bind_some]
      obtain ⟨r, w2, a1, a2, a3, a4⟩ := z_Lways R (xs (nI v + 1).toNatClampNeg) (xs (nI v + 2).toNatClampNeg) (xs (nI v + 3).toNatClampNeg)
      rw [a1, Option.bind_some, a2, Option.bind_some, a3, Option.bind_some]
      first | exact go _ a4 | (rw [if_pos rfl]; exact go _ a4)
    rw [if_neg c8]
    by_cases c9 : xs (nI v).toNatClampNeg &&& 31 = 9
    · rw [if_pos c9, if_neg b1, if_neg b2, if_neg b3, if_neg b4, o1, Option.bind_some]
      obtain ⟨r1, w1, r2, w2, a1, a2, a3, a4, a5⟩ := z_Ltells R (xs (nI v + 1).toNatClampNeg) (xs (nI v + 2).toNatClampNeg) (xs (nI v + 3).toNatClampNeg) (xs (nI v + 4).toNatClampNeg)
      rw [a1, Option.bind_some, a2, Option.bind_some, a3, Option.bind_some]
      first | exact go _ a4 | (rw [if_pos a5]; exact go _ a4)
    rw [if_neg c9]
    by_cases c10 : xs (nI v).toNatClampNeg &&& 31 = 10
    · rw [if_pos c10, if_neg b1, if_neg b2, if_neg b3, o1, Option.bind_some]
      obtain ⟨r, w1, w2, a1, a2, a3, a4⟩ := z_Ltelling R (xs (nI v + 1).toNatClampNeg) (xs (nI v + 2).toNatClampNeg) (xs (nI v + 3).toNatClampNeg)
      dsimp only at a3
      rw [a1, Option.bind_some, a2, Option.bind_some, a3, Option.bind_some]
      first | exact go _ a4 | (rw [if_pos rfl]; exact go _ a4)
    rw [if_neg c10]
    by_cases c11 : xs (nI v).toNatClampNeg &&& 31 = 11
    · rw [if_pos c11, if_neg b1, o1, Option.bind_some]
      obtain ⟨r, w2, a1, a2, a3, a4⟩ := z_Ltold R (xs (nI v + 1).toNatClampNeg)
      rw [a1, Option.bind_some, a2, Option.bind_some, a3, Option.bind_some]
      first | exact go _ a4 | (rw [if_pos rfl]; exact go _ a4)
    rw [if_neg c11]
    by_cases c12 : xs (nI v).toNatClampNeg &&& 31 = 12
    · rw [if_pos c12, if_neg b1, if_neg b2, if_neg b3, if_neg b4, if_neg b5, if_neg b6, if_neg b7, o1, Option.bind_some]
      obtain ⟨r, w1, a1, a2, a3, a4⟩ := z_Lodds R (xs (nI v + 1).toNatClampNeg) (xs (nI v + 2).toNatClampNeg) (xs (nI v + 3).toNatClampNeg) (xs (nI v + 4).toNatClampNeg) (xs (nI v + 5).toNatClampNeg) (xs (nI v + 6).toNatClampNeg) (xs (nI v + 7).toNatClampNeg)
      dsimp only at a3
      rw [a1, Option.bind_some, a2, Option.bind_some, a3, Option.bind_some]
      first | exact go _ a4 | (rw [if_pos rfl]; exact go _ a4)
    rw [if_neg c12]
    by_cases c13 : xs (nI v).toNatClampNeg &&& 31 = 13
    · rw [if_pos c13, if_neg b1, if_neg b2, if_neg b3, if_neg b4, if_neg b5, if_neg b6, if_neg b7, o1, Option.bind_some]
      obtain ⟨r, w1, a1, a2, a3, a4⟩ := z_Lwould R (xs (nI v + 1).toNatClampNeg) (xs (nI v + 2).toNatClampNeg) (xs (nI v + 3).toNatClampNeg) (xs (nI v + 4).toNatClampNeg) (xs (nI v + 5).toNatClampNeg) (xs (nI v + 6).toNatClampNeg) (xs (nI v + 7).toNatClampNeg)
      dsimp only at a3
      rw [a1, Option.bind_some, a2, Option.bind_some, a3, Option.bind_some]
      first | exact go _ a4 | (rw [if_pos rfl]; exact go _ a4)
    rw [if_neg c13]
    by_cases c14 : xs (nI v).toNatClampNeg &&& 31 = 14
    · rw [if_pos c14, if_neg b1, if_neg b2, o1, Option.bind_some]
      obtain ⟨r, w1, a1, a2, a3, a4⟩ := z_Leffect R (xs (nI v + 1).toNatClampNeg) (xs (nI v + 2).toNatClampNeg)
      dsimp only at a3
      rw [a1, Option.bind_some, a2, Option.bind_some, a3, Option.bind_some]
      first | exact go _ a4 | (rw [if_pos rfl]; exact go _ a4)
    rw [if_neg c14]
    by_cases c15 : xs (nI v).toNatClampNeg &&& 31 = 15
    · rw [if_pos c15, if_neg b1, if_neg b2, o1, Option.bind_some]
      obtain ⟨r, w1, a1, a2, a3, a4⟩ := z_Lswayed R (xs (nI v + 1).toNatClampNeg) (xs (nI v + 2).toNatClampNeg)
      dsimp only at a3
      rw [a1, Option.bind_some, a2, Option.bind_some, a3, Option.bind_some]
      first | exact go _ a4 | (rw [if_pos rfl]; exact go _ a4)
    rw [if_neg c15]
    by_cases c16 : xs (nI v).toNatClampNeg &&& 31 = 16
    · rw [if_pos c16, o1, Option.bind_some]
      obtain ⟨r, w1, w2, a1, a2, a3, a4⟩ := z_Lswap R
      dsimp only at a3
      rw [a1, Option.bind_some, a2, Option.bind_some, a3, Option.bind_some]
      first | exact go _ a4 | (rw [if_pos rfl]; exact go _ a4)
    rw [if_neg c16]
    by_cases c17 : xs (nI v).toNatClampNeg &&& 31 = 17
    · rw [if_pos c17, o1, Option.bind_some]
      obtain ⟨r, w1, w2, a1, a2, a3, a4⟩ := z_Lkeep R
      dsimp only at a3
      rw [a1, Option.bind_some, a2, Option.bind_some, a3, Option.bind_some]
      first | exact go _ a4 | (rw [if_pos rfl]; exact go _ a4)
    rw [if_neg c17]
    by_cases c18 : xs (nI v).toNatClampNeg &&& 31 = 18
    · rw [if_pos c18, if_neg b1, o1, Option.bind_some]
      obtain ⟨r, w1, w2, a1, a2, a3, a4⟩ := z_Lalike R (xs (nI v + 1).toNatClampNeg)
      dsimp only at a3
      rw [a1, Option.bind_some, a2, Option.bind_some, a3, Option.bind_some]
      first | exact go _ a4 | (rw [if_pos rfl]; exact go _ a4)
    rw [if_neg c18]
    exact go _ R
theorem mm_law {L : Nat} {xs : Nat → Int32} (hL : L ≤ 4096) : fL_law L xs [] = some 1 := by
  obtain ⟨w, R, e⟩ := z_start L xs
  have l := z_loop (xs := xs) hL 4096 0 x_F w (by omega) (by unfold x_F; omega) (by omega) R
  rw [show nI 0 = (0 : Int32) from rfl] at l
  rw [e, l]
