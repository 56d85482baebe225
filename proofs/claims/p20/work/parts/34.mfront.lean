section
variable {w : x_W} {n h : Nat} {f : Nat → Nat}
theorem z_Mfront (X : z_mx w n f h) {i j s : Nat} (hi : i < n) (hj : j < n) (hs : s < 64) (k1 : s.testBit i = false) (k2 : s.testBit j = false) : ∃ w', fM_isFront w 18 (nI i) (nI j) (nI s) = some (if z_front f n i j s then 1 else 0, w') ∧ z_mx w' n f h ∧ z_kM w w' := by
  have hn := X.2.1
  have h64 : 2 ^ n ≤ 64 := z_pow hn
  have hp := Nat.two_pow_pos n
  -- the second loop
  have loop2 : ∀ k q fuel (w : x_W) (ok : Bool), z_mx w n f h → z_mw w s n f → q + k = n → k < fuel → ∃ w', fM_isFront_103 fuel w 18 (nI i) (nI j) (nI s) (if ok then 1 else 0) (nI q) = some (if ok && z_alq (fun m => !s.testBit m || decide (z_ow (z_ct f s) n (2 ^ i) j n none m (2 ^ m) = 0)) k q then 1 else 0, w') ∧ z_mx w' n f h ∧ z_kM w w' := by
    intro k
    induction k with
    | zero =>
      intro q fuel w ok X H hq hk
      obtain ⟨m, rfl⟩ := z_suc hk
      obtain ⟨m0, m1, -⟩ := z_X0 X
      obtain ⟨w1, r1, r2, r3, r4⟩ := z_cut0 X
      rw [fM_isFront_103, m0, Option.bind_some, m1, Option.bind_some, if_pos (nI_le (by omega) (by omega)), r1, Option.bind_some, if_pos (z_01 ok), z_alq, Bool.and_true]
      exact ⟨w1, rfl, r2, fun k h1 _ => r4 k h1⟩
    | succ k ih =>
      intro q fuel w ok X H hq hk
      obtain ⟨m, rfl⟩ := z_suc hk
      obtain ⟨m0, m1, -⟩ := z_X0 X
      have hlt : q < n := by omega
      rw [fM_isFront_103, m0, Option.bind_some, m1, Option.bind_some, if_neg (nI_ge hlt (by omega)), z_hasM _ hs _ (by omega), z_inc, z_alq]
      cases ok
      · rw [if_pos (by decide)]
        obtain ⟨w', r1, r2, r3⟩ := ih (q + 1) m w false X H (by omega) (by omega)
        refine ⟨w', ?_, r2, r3⟩
        simpa using r1
      · rw [if_neg (by decide)]
        cases c1 : s.testBit q
        · obtain ⟨w', r1, r2, r3⟩ := ih (q + 1) m w true X H (by omega) (by omega)
          refine ⟨w', ?_, r2, r3⟩
          simpa [c1] using r1
        · have hqj : q ≠ j := fun e => by rw [e, k2] at c1; cases c1
          obtain ⟨w1, p1, p2, p3, p4⟩ := z_mways X H hlt hj hqj (z_p64 (show i < 6 by omega))
          rw [z_bit i (by omega), p1, Option.bind_some]
          by_cases c2 : z_ow (z_ct f s) n (2 ^ i) j n none q (2 ^ q) = 0
          · obtain ⟨w', r1, r2, r3⟩ := ih (q + 1) m w1 true p2 p3 (by omega) (by omega)
            refine ⟨w', ?_, r2, fun k h1 h2 => by rw [r3 k h1 h2, p4 k h2]⟩
            rw [if_neg (by decide), if_pos ((z_nz (z_owb hn)).mpr c2)]
            simpa [c2] using r1
          · obtain ⟨w', r1, r2, r3⟩ := ih (q + 1) m w1 false p2 p3 (by omega) (by omega)
            refine ⟨w', ?_, r2, fun k h1 h2 => by rw [r3 k h1 h2, p4 k h2]⟩
            rw [if_neg (by decide), if_neg (fun z => c2 ((z_nz (z_owb hn)).mp z))]
            simpa [c2] using r1
  have loop1 : ∀ k q fuel (w : x_W) (ok : Bool), z_mx w n f h → z_mw w (2 ^ i) n f → q + k = n → k < fuel → ∃ w', fM_isFront_48 fuel w 18 (nI i) (nI j) (nI s) (if ok then 1 else 0) (nI q) = some (if ok && z_alq (fun m => !s.testBit m || decide (z_ow (z_ct f (2 ^ i)) n 0 i n none m (2 ^ m) = 0)) k q && z_ep (z_ct f s) n s j (2 ^ i) then 1 else 0, w') ∧ z_mx w' n f h ∧ z_kM w w' := by
    intro k
    induction k with
    | zero =>
      intro q fuel w ok X H hq hk
      obtain ⟨m, rfl⟩ := z_suc hk
      obtain ⟨m0, m1, -⟩ := z_X0 X
      obtain ⟨w1, r1, r2, r3, r4⟩ := z_cutset X (c := s) hs
      obtain ⟨w', p1, p2, p3⟩ := loop2 n 0 x_F w1 ok r2 r3 (by omega) (by unfold x_F; omega)
      rw [fM_isFront_48, m0, Option.bind_some, m1, Option.bind_some, if_pos (nI_le (by omega) (by omega)), r1, Option.bind_some, show (0 : Int32) = nI 0 from rfl, z_alq, Bool.and_true]
      exact ⟨w', p1, p2, fun k h1 h2 => by rw [p3 k h1 h2, r4 k h1]⟩
    | succ k ih =>
      intro q fuel w ok X H hq hk
      obtain ⟨m, rfl⟩ := z_suc hk
      obtain ⟨m0, m1, -⟩ := z_X0 X
      have hlt : q < n := by omega
      rw [fM_isFront_48, m0, Option.bind_some, m1, Option.bind_some, if_neg (nI_ge hlt (by omega)), z_hasM _ hs _ (by omega), z_inc, z_alq]
      cases ok
      · rw [if_pos (by decide)]
        obtain ⟨w', r1, r2, r3⟩ := ih (q + 1) m w false X H (by omega) (by omega)
        refine ⟨w', ?_, r2, r3⟩
        simpa using r1
      · rw [if_neg (by decide)]
        cases c1 : s.testBit q
        · obtain ⟨w', r1, r2, r3⟩ := ih (q + 1) m w true X H (by omega) (by omega)
          refine ⟨w', ?_, r2, r3⟩
          simpa [c1] using r1
        · have hqi : q ≠ i := fun e => by rw [e, k1] at c1; cases c1
          obtain ⟨w1, p1, p2, p3, p4⟩ := z_mways X H hlt hi hqi (show 0 < 64 by omega)
          have p1' : fM_waysOf w 18 (nI q) (nI i) 0 = _ := p1
          rw [p1', Option.bind_some]
          by_cases c2 : z_ow (z_ct f (2 ^ i)) n 0 i n none q (2 ^ q) = 0
          · obtain ⟨w', r1, r2, r3⟩ := ih (q + 1) m w1 true p2 p3 (by omega) (by omega)
            refine ⟨w', ?_, r2, fun k h1 h2 => by rw [r3 k h1 h2, p4 k h2]⟩
            rw [if_neg (by decide), if_pos ((z_nz (z_owb hn)).mpr c2)]
            simpa [c2] using r1
          · obtain ⟨w', r1, r2, r3⟩ := ih (q + 1) m w1 false p2 p3 (by omega) (by omega)
            refine ⟨w', ?_, r2, fun k h1 h2 => by rw [r3 k h1 h2, p4 k h2]⟩
            rw [if_neg (by decide), if_neg (fun z => c2 ((z_nz (z_owb hn)).mp z))]
            simpa [c2] using r1
  obtain ⟨w1, r1, r2, r3, r4⟩ := z_cut0 X
  obtain ⟨m0, -⟩ := z_X0 r2
  obtain ⟨w5, p1, p2, p3, p4⟩ := z_cutset r2 (c := 2 ^ i) (z_p64 (by omega))
  have hr : z_rc (z_ct f 0) ((2 ^ n - 1) &&& (63 - s)) i n = z_rc f (63 - s) i n := by
    rw [z_rc_congr n (fun k hk => z_ct0 hn X.2.2.1 hk)]
    exact z_rc_thr (fun q hq => by rw [Nat.testBit_and, Nat.testBit_two_pow_sub_one]; simp [hq]) n (Nat.le_refl n)
  have hr64 : z_rc f (63 - s) i n < 64 := Nat.lt_of_lt_of_le (z_rc_lt _ _ n) h64
  unfold fM_isFront z_front
  by_cases c0 : s = 0
  · rw [if_pos ((z_nz (by omega)).mpr c0)]
    exact ⟨w, by simp [c0], X, fun _ _ _ => rfl⟩
  · rw [if_neg (fun z => c0 ((z_nz (by omega)).mp z)), r1, Option.bind_some, m0, Option.bind_some, z_mAll r2, Option.bind_some, z_not _ (by omega) _ hs, z_Mreach r3 hi (Nat.lt_of_le_of_lt Nat.and_le_left (by omega)), Option.bind_some, hr, z_hasM _ hr64 _ (by omega), z_bit i (by omega), p1, Option.bind_some, Option.bind_some]
    by_cases c1 : (z_rc f (63 - s) i n).testBit j
    · obtain ⟨w', q1, q2, q3⟩ := loop1 n 0 x_F w5 false p2 p3 (by omega) (by unfold x_F; omega)
      refine ⟨w', ?_, q2, fun k h1 h2 => by rw [q3 k h1 h2, p4 k h1, r4 k h1]⟩
      rw [if_pos c1, if_neg (by decide)]
      simpa [c1, nI_0] using q1
    · obtain ⟨w', q1, q2, q3⟩ := loop1 n 0 x_F w5 true p2 p3 (by omega) (by unfold x_F; omega)
      refine ⟨w', ?_, q2, fun k h1 h2 => by rw [q3 k h1 h2, p4 k h1, r4 k h1]⟩
      rw [if_neg c1, if_pos (by decide)]
      have e : z_ep (z_ct f (2 ^ i)) n s i 0 = z_alq (fun m => !s.testBit m || decide (z_ow (z_ct f (2 ^ i)) n 0 i n none m (2 ^ m) = 0)) n 0 := rfl
      rw [e]
      simpa [c0, c1, nI_0] using q1
end
