/-! the reference's search of ways: its loop is the recursion -/
def z_B : Nat → Nat
  | 0 => 0
  | d + 1 => 6 * (2 + z_B d)
def z_la (π : Nat → Nat) (size : Nat) : Option Nat := if 2 ≤ size then some (π (size - 2)) else none
def z_ex (π : Nat → Nat) (size q : Nat) : Nat → Nat := fun k => if k = size then q else π k
theorem z_ok_ex {F : Nat → Nat} {n z size q : Nat} {π : Nat → Nat} (hs : 1 ≤ size) : z_okp F n z (z_ex π size q) (size - 1) = (z_okp F n z π (size - 2) && z_opl F n z (z_la π size) (π (size - 1)) q) := by
  unfold z_la
  by_cases h : 2 ≤ size
  · rw [if_pos h]
    obtain ⟨m, rfl⟩ : ∃ m, size = m + 2 := ⟨size - 2, by omega⟩
    show z_okp F n z (z_ex π (m + 2) q) (m + 1) = (z_okp F n z π m && z_opl F n z (some (π m)) (π (m + 1)) q)
    rw [z_okp, z_okp_congr (π' := π) m (fun k hk => by unfold z_ex; rw [if_neg (by omega)])]
    unfold z_opl z_ex
    rw [if_neg (by omega), if_neg (by omega), if_pos rfl]
  · rw [if_neg h, show size = 1 by omega]
    rfl
theorem z_full : ∀ n, n < 7 → ∀ u, u < 64 → u < 2 ^ n → n ≤ z_pc u → ∀ q, q < n → u.testBit q = true := by decide +kernel
/-- more depth than places left changes nothing -/
theorem z_ow_more {F : Nat → Nat} {n z goal : Nat} (hn : n ≤ 6) : ∀ d last m been, been < 2 ^ n → n ≤ z_pc been + d → z_ow F n z goal (d + 1) last m been = z_ow F n z goal d last m been
  | 0, last, m, been, hb, hp => by
    rw [z_ow, z_ow]
    by_cases e : m = goal
    · rw [if_pos e, if_pos e]
    · rw [if_neg e, if_neg e]
      have : ∀ k, k ≤ n → z_sum (fun q => if !been.testBit q && ((F m).testBit q || (F q).testBit m) && z_opl F n z last m q then z_ow F n z goal 0 (some m) q (been ||| 2 ^ q) else 0) k = 0 := by
        intro k
        induction k with
        | zero => intro _; rfl
        | succ k ih =>
          intro hk
          rw [z_sum, ih (by omega), z_full n (by omega) been (z_h64 hn hb) hb (by omega) k (by omega)]
          simp
      exact this n (Nat.le_refl n)
  | d + 1, last, m, been, hb, hp => by
    rw [z_ow, z_ow]
    by_cases e : m = goal
    · rw [if_pos e, if_pos e]
    · rw [if_neg e, if_neg e]
      refine z_sum_congr n fun q hq => ?_
      by_cases c1 : !been.testBit q && ((F m).testBit q || (F q).testBit m) && z_opl F n z last m q
      · rw [if_pos c1, if_pos c1]
        have hq' : been.testBit q = false := by
          cases hh : been.testBit q
          · rfl
          · simp [hh] at c1
        refine z_ow_more hn d (some m) q (been ||| 2 ^ q) (Nat.or_lt_two_pow hb (Nat.pow_lt_pow_right (by omega) hq)) ?_
        rw [z_pc_or been (z_h64 hn hb) q (by omega) hq']
        omega
      · rw [if_neg c1, if_neg c1]
section
variable {c n : Nat} {f : Nat → Nat}
theorem z_pre {w : x_W} {Y : Nat → Int32} {size used next b z cnt mm : Nat} (H : z_mw w c n f) (hY : w[23]? = some (.inl (6, Y))) (h1 : 1 ≤ size) (h6 : size ≤ 5) (hu64 : used < 64) (y1 : Y (size - 1) = nI mm) (p1 : mm < n) (hlt : next < n) (hb : b < n) (k21 : x_W → Nat → Int32 → Int32 → Int32 → Int32 → Int32 → Int32 → Option (Int32 × x_W)) (m : Nat) : fM_waysOf_26 k21 (m + 1) w 18 (nI b) (nI z) (nI cnt) (nI size) (nI used) (nI next) = if used.testBit next || !((z_ct f c mm).testBit next || (z_ct f c next).testBit mm) then fM_waysOf_26 k21 m w 18 (nI b) (nI z) (nI cnt) (nI size) (nI used) (nI (next + 1)) else if next = b then ((x_pa w 23 (nI size) (nI b)).bind fun w25 => (x_ob w25 18 5).bind fun _ => (fM_isOpen w25 18 (nI (size + 1)) (nI z)).bind fun t27 => if t27 = 0 then k21 w25 18 (nI b) (nI z) (nI cnt) (nI size) (nI used) (nI (next + 1)) else k21 w25 18 (nI b) (nI z) (nI (cnt + 1)) (nI size) (nI used) (nI (next + 1))) else ((x_pa w 23 (nI size) (nI next)).bind fun w29 => k21 w29 18 (nI b) (nI z) (nI cnt) (nI (size + 1)) (nI (used ||| 2 ^ next)) (nI 0)) := by
  have hn := H.2.1
  obtain ⟨m0, m1, -, -, -, -, -, m7, -⟩ := z_M0 H
  have hsI : nI size - 1 = nI (size - 1) := by
    rw [show (1 : Int32) = nI 1 from rfl, pk_sub (by omega)]
  have nn : ¬ nI next = nI n := fun e => by have := (nI_eq (by omega) (by omega)).mp e; omega
  rw [fM_waysOf_26, m0, Option.bind_some, m1, Option.bind_some, if_neg (nI_ge hlt (by omega)), z_hasM _ hu64 _ (by omega), m7, Option.bind_some, hsI, z_ai hY (show size - 1 < 6 by omega) (by omega), Option.bind_some, y1, z_joined H p1 hlt, Option.bind_some, Option.bind_some, if_neg nn, z_inc, z_inc, z_inc, z_bit next (by omega), z_or, show (0 : Int32) = nI 0 from rfl]
  cases k1 : used.testBit next
  · cases k2 : ((z_ct f c mm).testBit next || (z_ct f c next).testBit mm)
    · rfl
    · by_cases c3 : next = b
      · subst c3
        rw [if_pos (show (nI next = nI next) from rfl), if_pos (show next = next from rfl)]
        rfl
      · rw [if_neg (show ¬ nI next = nI b from fun e => c3 ((nI_eq (by omega) (by omega)).mp e)), if_neg c3]
        rfl
  · rfl
theorem z_dfs {b z : Nat} (hb : b < n) (hz : z < 64) : ∀ (d j size next used cnt : Nat) (π : Nat → Nat) (w : x_W) (Y : Nat → Int32), z_mw w c n f → w[23]? = some (.inl (6, Y)) → (∀ k, k < size → Y k = nI (π k) ∧ π k < n) → 1 ≤ size → size + d + 1 = n → used < 2 ^ n → z_pc used = size → used.testBit b = false → next + j = n →
    ∃ it w' Y', it ≤ j * (2 + z_B d) ∧ w'[23]? = some (.inl (6, Y')) ∧ (∀ k, k < size → Y' k = Y k) ∧ (∀ k, k ≠ 23 → w'[k]? = w[k]?) ∧ ∀ fuel fI, j < fI → fM_waysOf_26 (fM_waysOf_21 (fuel + it)) fI w 18 (nI b) (nI z) (nI cnt) (nI size) (nI used) (nI next) = fM_waysOf_21 fuel w' 18 (nI b) (nI z) (nI (cnt + z_sm (z_cq (z_ct f c) n z b d (z_okp (z_ct f c) n z π (size - 2)) (z_la π size) (π (size - 1)) used) j next)) (nI (size - 1)) (nI (used &&& (63 - 2 ^ π (size - 1)))) (nI (π (size - 1) + 1)) := by
  intro d
  induction d with
  | zero =>
    intro j
    induction j with
    | zero =>
      intro size next used cnt π w Y H hY hπ h1 hd hu hpc hub hj
      have hn := H.2.1
      obtain ⟨m0, m1, -, -, -, -, -, m7, -⟩ := z_M0 H
      obtain ⟨y1, p1⟩ := hπ (size - 1) (by omega)
      have hu64 := z_h64 hn hu
      refine ⟨0, w, Y, by omega, hY, fun _ _ => rfl, fun _ _ => rfl, fun fuel fI hfI => ?_⟩
      obtain ⟨m, rfl⟩ := z_suc hfI
      rw [fM_waysOf_26, m0, Option.bind_some, m1, Option.bind_some, if_pos (nI_le (by omega) (by omega)), Option.bind_some, if_pos (by rw [show next = n by omega]), m7, Option.bind_some, sb_m1 (by omega), z_ai hY (show size - 1 < 6 by omega) (by omega), Option.bind_some, y1, z_notbit used hu64 _ (by omega), z_inc, z_sm]
      rfl
    | succ j ih =>
      intro size next used cnt π w Y H hY hπ h1 hd hu hpc hub hj
      have hn := H.2.1
      obtain ⟨m0, m1, -, -, -, -, -, m7, -⟩ := z_M0 H
      obtain ⟨y1, p1⟩ := hπ (size - 1) (by omega)
      have hu64 := z_h64 hn hu
      have hlt : next < n := by omega
      have pre := fun k21 m => z_pre (cnt := cnt) (z := z) H hY h1 (by omega) hu64 y1 p1 hlt hb k21 m
      by_cases c1 : used.testBit next || !((z_ct f c (π (size - 1))).testBit next || (z_ct f c next).testBit (π (size - 1)))
      · -- skipped
        obtain ⟨it, w', Y', r1, r2, r3, r4, r5⟩ := ih size (next + 1) used cnt π w Y H hY hπ h1 hd hu hpc hub (by omega)
        refine ⟨it, w', Y', Nat.le_trans r1 (Nat.mul_le_mul_right _ (by omega)), r2, r3, r4, fun fuel fI hfI => ?_⟩
        obtain ⟨m, rfl⟩ := z_suc hfI
        rw [pre, if_pos c1, r5 fuel m (by omega), z_sm]
        have : z_cq (z_ct f c) n z b 0 (z_okp (z_ct f c) n z π (size - 2)) (z_la π size) (π (size - 1)) used next = 0 := by
          rw [z_cq, if_neg]
          intro e
          cases k1 : used.testBit next <;> cases k2 : ((z_ct f c (π (size - 1))).testBit next || (z_ct f c next).testBit (π (size - 1))) <;> simp [k1, k2] at c1 e
        rw [this, Nat.zero_add]
      · have g1 : used.testBit next = false := by
          cases k1 : used.testBit next
          · rfl
          · simp [k1] at c1
        have g2 : ((z_ct f c (π (size - 1))).testBit next || (z_ct f c next).testBit (π (size - 1))) = true := by
          cases k2 : ((z_ct f c (π (size - 1))).testBit next || (z_ct f c next).testBit (π (size - 1)))
          · simp [k2] at c1
          · rfl
        by_cases c3 : next = b
        · -- the goal
          have hY1 := z_self (c' := .inl (6, upd Y size (nI b))) hY
          have H1 : z_mw (w.set 23 (.inl (6, upd Y size (nI b)))) c n f := z_mw_same H (z_else (by omega)) (z_else (by omega)) (z_else (by omega))
          have hop := z_Mopen H1 hY1 (s := size + 1) (z := z) (π := z_ex π size b) (by omega) (by omega) (fun k hk => by
            unfold z_ex
            by_cases e : k = size
            · subst e; rw [z_upd_s, if_pos rfl]; exact ⟨rfl, hb⟩
            · rw [z_upd_n e, if_neg e]; exact hπ k (by omega)) hz
          rw [show size + 1 - 2 = size - 1 by omega, z_ok_ex h1] at hop
          obtain ⟨m0', -⟩ := z_M0 H1
          obtain ⟨it, w', Y', r1, r2, r3, r4, r5⟩ := ih size (next + 1) used (cnt + z_cq (z_ct f c) n z b 0 (z_okp (z_ct f c) n z π (size - 2)) (z_la π size) (π (size - 1)) used next) π _ _ H1 hY1 (fun k hk => by rw [z_upd_n (show k ≠ size by omega)]; exact hπ k hk) h1 hd hu hpc hub (by omega)
          refine ⟨it + 1, w', Y', ?_, r2, fun k hk => by rw [r3 k hk, z_upd_n (show k ≠ size by omega)], fun k hk => by rw [r4 k hk, z_else (Ne.symm hk)], fun fuel fI hfI => ?_⟩
          · have : (j + 1) * (2 + z_B 0) = j * (2 + z_B 0) + (2 + z_B 0) := by rw [Nat.add_mul, Nat.one_mul]
            omega
          · obtain ⟨m, rfl⟩ := z_suc hfI
            rw [pre, if_neg c1, if_pos c3, z_pa hY (show size < 6 by omega) (by omega), Option.bind_some, m0', Option.bind_some, hop, Option.bind_some]
            have hcq : z_cq (z_ct f c) n z b 0 (z_okp (z_ct f c) n z π (size - 2)) (z_la π size) (π (size - 1)) used next = if z_okp (z_ct f c) n z π (size - 2) && z_opl (z_ct f c) n z (z_la π size) (π (size - 1)) b then 1 else 0 := by
              rw [z_cq, if_pos (by simp [g1, g2]), if_pos c3, c3]
            have go : ∀ cnt', cnt' = cnt + z_cq (z_ct f c) n z b 0 (z_okp (z_ct f c) n z π (size - 2)) (z_la π size) (π (size - 1)) used next → fM_waysOf_21 (fuel + (it + 1)) (w.set 23 (.inl (6, upd Y size (nI b)))) 18 (nI b) (nI z) (nI cnt') (nI size) (nI used) (nI (next + 1)) = fM_waysOf_21 fuel w' 18 (nI b) (nI z) (nI (cnt + z_sm (z_cq (z_ct f c) n z b 0 (z_okp (z_ct f c) n z π (size - 2)) (z_la π size) (π (size - 1)) used) (j + 1) next)) (nI (size - 1)) (nI (used &&& (63 - 2 ^ π (size - 1)))) (nI (π (size - 1) + 1)) := by
              intro cnt' e
              rw [← Nat.add_assoc, fM_waysOf_21, if_neg (nI_nle (by omega) (by omega)), e, r5 fuel x_F (by unfold x_F; omega), z_sm, Nat.add_assoc]
            by_cases c4 : z_okp (z_ct f c) n z π (size - 2) && z_opl (z_ct f c) n z (z_la π size) (π (size - 1)) b
            · rw [if_pos c4, if_neg (by decide)]
              exact go _ (by rw [hcq, if_pos c4])
            · rw [if_neg c4, if_pos rfl]
              exact go _ (by rw [hcq, if_neg c4, Nat.add_zero])
        · -- no place is left for another
          exfalso
          have q1 := z_pc_or used hu64 next (by omega) g1
          have hu1 : used ||| 2 ^ next < 2 ^ n := Nat.or_lt_two_pow hu (Nat.pow_lt_pow_right (by omega) hlt)
          have q2 := z_pc_or (used ||| 2 ^ next) (z_h64 hn hu1) b (by omega) (by rw [Nat.testBit_or, hub, Nat.testBit_two_pow]; simp [c3])
          have hu2 : used ||| 2 ^ next ||| 2 ^ b < 2 ^ n := Nat.or_lt_two_pow hu1 (Nat.pow_lt_pow_right (by omega) hb)
          have q3 := z_pc_le n (by omega) _ (z_h64 hn hu2) hu2
          omega
  | succ d ihd =>
    intro j
    induction j with
    | zero =>
      intro size next used cnt π w Y H hY hπ h1 hd hu hpc hub hj
      have hn := H.2.1
      obtain ⟨m0, m1, -, -, -, -, -, m7, -⟩ := z_M0 H
      obtain ⟨y1, p1⟩ := hπ (size - 1) (by omega)
      have hu64 := z_h64 hn hu
      refine ⟨0, w, Y, by omega, hY, fun _ _ => rfl, fun _ _ => rfl, fun fuel fI hfI => ?_⟩
      obtain ⟨m, rfl⟩ := z_suc hfI
      rw [fM_waysOf_26, m0, Option.bind_some, m1, Option.bind_some, if_pos (nI_le (by omega) (by omega)), Option.bind_some, if_pos (by rw [show next = n by omega]), m7, Option.bind_some, sb_m1 (by omega), z_ai hY (show size - 1 < 6 by omega) (by omega), Option.bind_some, y1, z_notbit used hu64 _ (by omega), z_inc, z_sm]
      rfl
    | succ j ih =>
      intro size next used cnt π w Y H hY hπ h1 hd hu hpc hub hj
      have hn := H.2.1
      obtain ⟨m0, m1, -, -, -, -, -, m7, -⟩ := z_M0 H
      obtain ⟨y1, p1⟩ := hπ (size - 1) (by omega)
      have hu64 := z_h64 hn hu
      have hlt : next < n := by omega
      have pre := fun k21 m => z_pre (cnt := cnt) (z := z) H hY h1 (by omega) hu64 y1 p1 hlt hb k21 m
      by_cases c1 : used.testBit next || !((z_ct f c (π (size - 1))).testBit next || (z_ct f c next).testBit (π (size - 1)))
      · obtain ⟨it, w', Y', r1, r2, r3, r4, r5⟩ := ih size (next + 1) used cnt π w Y H hY hπ h1 hd hu hpc hub (by omega)
        refine ⟨it, w', Y', Nat.le_trans r1 (Nat.mul_le_mul_right _ (by omega)), r2, r3, r4, fun fuel fI hfI => ?_⟩
        obtain ⟨m, rfl⟩ := z_suc hfI
        rw [pre, if_pos c1, r5 fuel m (by omega), z_sm]
        have : z_cq (z_ct f c) n z b (d + 1) (z_okp (z_ct f c) n z π (size - 2)) (z_la π size) (π (size - 1)) used next = 0 := by
          rw [z_cq, if_neg]
          intro e
          cases k1 : used.testBit next <;> cases k2 : ((z_ct f c (π (size - 1))).testBit next || (z_ct f c next).testBit (π (size - 1))) <;> simp [k1, k2] at c1 e
        rw [this, Nat.zero_add]
      · have g1 : used.testBit next = false := by
          cases k1 : used.testBit next
          · rfl
          · simp [k1] at c1
        have g2 : ((z_ct f c (π (size - 1))).testBit next || (z_ct f c next).testBit (π (size - 1))) = true := by
          cases k2 : ((z_ct f c (π (size - 1))).testBit next || (z_ct f c next).testBit (π (size - 1)))
          · simp [k2] at c1
          · rfl
        by_cases c3 : next = b
        · have hY1 := z_self (c' := .inl (6, upd Y size (nI b))) hY
          have H1 : z_mw (w.set 23 (.inl (6, upd Y size (nI b)))) c n f := z_mw_same H (z_else (by omega)) (z_else (by omega)) (z_else (by omega))
          have hop := z_Mopen H1 hY1 (s := size + 1) (z := z) (π := z_ex π size b) (by omega) (by omega) (fun k hk => by
            unfold z_ex
            by_cases e : k = size
            · subst e; rw [z_upd_s, if_pos rfl]; exact ⟨rfl, hb⟩
            · rw [z_upd_n e, if_neg e]; exact hπ k (by omega)) hz
          rw [show size + 1 - 2 = size - 1 by omega, z_ok_ex h1] at hop
          obtain ⟨m0', -⟩ := z_M0 H1
          obtain ⟨it, w', Y', r1, r2, r3, r4, r5⟩ := ih size (next + 1) used (cnt + z_cq (z_ct f c) n z b (d + 1) (z_okp (z_ct f c) n z π (size - 2)) (z_la π size) (π (size - 1)) used next) π _ _ H1 hY1 (fun k hk => by rw [z_upd_n (show k ≠ size by omega)]; exact hπ k hk) h1 hd hu hpc hub (by omega)
          refine ⟨it + 1, w', Y', ?_, r2, fun k hk => by rw [r3 k hk, z_upd_n (show k ≠ size by omega)], fun k hk => by rw [r4 k hk, z_else (Ne.symm hk)], fun fuel fI hfI => ?_⟩
          · have : (j + 1) * (2 + z_B (d + 1)) = j * (2 + z_B (d + 1)) + (2 + z_B (d + 1)) := by rw [Nat.add_mul, Nat.one_mul]
            omega
          · obtain ⟨m, rfl⟩ := z_suc hfI
            rw [pre, if_neg c1, if_pos c3, z_pa hY (show size < 6 by omega) (by omega), Option.bind_some, m0', Option.bind_some, hop, Option.bind_some]
            have hcq : z_cq (z_ct f c) n z b (d + 1) (z_okp (z_ct f c) n z π (size - 2)) (z_la π size) (π (size - 1)) used next = if z_okp (z_ct f c) n z π (size - 2) && z_opl (z_ct f c) n z (z_la π size) (π (size - 1)) b then 1 else 0 := by
              rw [z_cq, if_pos (by simp [g1, g2]), if_pos c3, c3]
            have go : ∀ cnt', cnt' = cnt + z_cq (z_ct f c) n z b (d + 1) (z_okp (z_ct f c) n z π (size - 2)) (z_la π size) (π (size - 1)) used next → fM_waysOf_21 (fuel + (it + 1)) (w.set 23 (.inl (6, upd Y size (nI b)))) 18 (nI b) (nI z) (nI cnt') (nI size) (nI used) (nI (next + 1)) = fM_waysOf_21 fuel w' 18 (nI b) (nI z) (nI (cnt + z_sm (z_cq (z_ct f c) n z b (d + 1) (z_okp (z_ct f c) n z π (size - 2)) (z_la π size) (π (size - 1)) used) (j + 1) next)) (nI (size - 1)) (nI (used &&& (63 - 2 ^ π (size - 1)))) (nI (π (size - 1) + 1)) := by
              intro cnt' e
              rw [← Nat.add_assoc, fM_waysOf_21, if_neg (nI_nle (by omega) (by omega)), e, r5 fuel x_F (by unfold x_F; omega), z_sm, Nat.add_assoc]
            by_cases c4 : z_okp (z_ct f c) n z π (size - 2) && z_opl (z_ct f c) n z (z_la π size) (π (size - 1)) b
            · rw [if_pos c4, if_neg (by decide)]
              exact go _ (by rw [hcq, if_pos c4])
            · rw [if_neg c4, if_pos rfl]
              exact go _ (by rw [hcq, if_neg c4, Nat.add_zero])
        · -- a place deeper, and back
          have hY1 := z_self (c' := .inl (6, upd Y size (nI next))) hY
          have H1 : z_mw (w.set 23 (.inl (6, upd Y size (nI next)))) c n f := z_mw_same H (z_else (by omega)) (z_else (by omega)) (z_else (by omega))
          have hu1 : used ||| 2 ^ next < 2 ^ n := Nat.or_lt_two_pow hu (Nat.pow_lt_pow_right (by omega) hlt)
          have q1 := z_pc_or used hu64 next (by omega) g1
          obtain ⟨it1, w1, Y1, a1, a2, a3, a4, a5⟩ := ihd n (size + 1) 0 (used ||| 2 ^ next) cnt (z_ex π size next) _ _ H1 hY1 (fun k hk => by
            unfold z_ex
            by_cases e : k = size
            · subst e; rw [z_upd_s, if_pos rfl]; exact ⟨rfl, hlt⟩
            · rw [z_upd_n e, if_neg e]; exact hπ k (by omega)) (by omega) (by omega) hu1 (by omega) (by rw [Nat.testBit_or, hub, Nat.testBit_two_pow]; simp [c3]) (by omega)
          have e1 : z_ex π size next (size + 1 - 1) = next := by unfold z_ex; rw [if_pos (by omega)]
          have e2 : z_la (z_ex π size next) (size + 1) = some (π (size - 1)) := by
            unfold z_la z_ex
            rw [if_pos (by omega), show size + 1 - 2 = size - 1 by omega, if_neg (by omega)]
          have e3 : z_okp (z_ct f c) n z (z_ex π size next) (size + 1 - 2) = (z_okp (z_ct f c) n z π (size - 2) && z_opl (z_ct f c) n z (z_la π size) (π (size - 1)) next) := by
            rw [show size + 1 - 2 = size - 1 by omega, z_ok_ex h1]
          rw [e1, e2, e3, z_unbit used hu64 next (by omega) g1, Nat.add_sub_cancel] at a5
          have hcq : z_cq (z_ct f c) n z b (d + 1) (z_okp (z_ct f c) n z π (size - 2)) (z_la π size) (π (size - 1)) used next = z_sm (z_cq (z_ct f c) n z b d (z_okp (z_ct f c) n z π (size - 2) && z_opl (z_ct f c) n z (z_la π size) (π (size - 1)) next) (some (π (size - 1))) next (used ||| 2 ^ next)) n 0 := by
            rw [z_cq, if_pos (by simp [g1, g2]), if_neg c3]
          rw [← hcq] at a5
          have H2 : z_mw w1 c n f := z_mw_same H1 (a4 18 (by omega)) (a4 19 (by omega)) (a4 20 (by omega))
          obtain ⟨it, w', Y', r1, r2, r3, r4, r5⟩ := ih size (next + 1) used (cnt + z_cq (z_ct f c) n z b (d + 1) (z_okp (z_ct f c) n z π (size - 2)) (z_la π size) (π (size - 1)) used next) π w1 Y1 H2 a2 (fun k hk => by rw [a3 k (by omega), z_upd_n (show k ≠ size by omega)]; exact hπ k hk) h1 hd hu hpc hub (by omega)
          refine ⟨it + 1 + it1 + 1, w', Y', ?_, r2, fun k hk => by rw [r3 k hk, a3 k (by omega), z_upd_n (show k ≠ size by omega)], fun k hk => by rw [r4 k hk, a4 k hk, z_else (Ne.symm hk)], fun fuel fI hfI => ?_⟩
          · have e : (j + 1) * (2 + z_B (d + 1)) = j * (2 + z_B (d + 1)) + (2 + z_B (d + 1)) := by rw [Nat.add_mul, Nat.one_mul]
            have e' : n * (2 + z_B d) ≤ 6 * (2 + z_B d) := Nat.mul_le_mul_right _ hn
            have e'' : z_B (d + 1) = 6 * (2 + z_B d) := rfl
            omega
          · obtain ⟨m, rfl⟩ := z_suc hfI
            rw [pre, if_neg c1, if_neg c3, z_pa hY (show size < 6 by omega) (by omega), Option.bind_some, ← Nat.add_assoc, fM_waysOf_21, if_neg (nI_nle (by omega) (by omega)), ← Nat.add_assoc, a5 (fuel + (it + 1)) x_F (by unfold x_F; omega), ← Nat.add_assoc, fM_waysOf_21, if_neg (nI_nle (by omega) (by omega)), r5 fuel x_F (by unfold x_F; omega), z_sm, Nat.add_assoc]
theorem z_Bsmall : ∀ d, d < 6 → z_B d ≤ 20000 := by decide +kernel
/-- waysOf -/
theorem z_Mways {w : x_W} (H : z_mw w c n f) {Y : Nat → Int32} (hY : w[23]? = some (.inl (6, Y))) {a b z : Nat} (ha : a < n) (hb : b < n) (hab : a ≠ b) (hz : z < 64) : ∃ w' Y', fM_waysOf w 18 (nI a) (nI b) (nI z) = some (nI (z_ow (z_ct f c) n z b n none a (2 ^ a)), w') ∧ w'[23]? = some (.inl (6, Y')) ∧ ∀ k, k ≠ 23 → w'[k]? = w[k]? := by
  have hn := H.2.1
  obtain ⟨m0, m1, -, -, -, -, -, m7, -⟩ := z_M0 H
  obtain ⟨d, hd⟩ : ∃ d, 1 + d + 1 = n := ⟨n - 2, by omega⟩
  have hY1 := z_self (c' := .inl (6, upd Y 0 (nI a))) hY
  have H1 : z_mw (w.set 23 (.inl (6, upd Y 0 (nI a)))) c n f := z_mw_same H (z_else (by omega)) (z_else (by omega)) (z_else (by omega))
  have hpc : ∀ a, a < 6 → z_pc (2 ^ a) = 1 := by decide +kernel
  obtain ⟨it, w', Y', r1, r2, r3, r4, r5⟩ := z_dfs hb hz d n 1 0 (2 ^ a) 0 (fun _ => a) _ _ H1 hY1 (fun k hk => by rw [show k = 0 by omega, z_upd_s]; exact ⟨rfl, ha⟩) (by omega) (by omega) (Nat.pow_lt_pow_right (by omega) ha) (hpc a (by omega)) (by rw [Nat.testBit_two_pow]; simp [hab]) (by omega)
  have hB := z_Bsmall d (by omega)
  have hit : it ≤ 6 * 20002 := Nat.le_trans r1 (Nat.mul_le_mul hn (by omega))
  refine ⟨w', Y', ?_, r2, fun k hk => by rw [r4 k hk, z_else (Ne.symm hk)]⟩
  unfold fM_waysOf
  rw [m7, Option.bind_some, show (0 : Int32) = nI 0 from rfl, z_pa hY (by omega) (by omega), Option.bind_some, z_bit a (by omega), show (1 : Int32) = nI 1 from rfl]
  obtain ⟨m, hm⟩ : ∃ m, x_F = (m + 1) + it + 1 := ⟨x_F - it - 2, by unfold x_F; omega⟩
  rw [hm, fM_waysOf_21, if_neg (nI_nle (by omega) (by omega)), r5 (m + 1) x_F (by unfold x_F; omega), fM_waysOf_21, if_pos (show nI (1 - 1) ≤ 0 by decide)]
  have e := z_cq_ow (F := z_ct f c) (n := n) (z := z) (goal := b) d true none a (2 ^ a) hab
  rw [if_pos rfl, ← z_ow_more (by omega) (d + 1) none a (2 ^ a) (Nat.pow_lt_pow_right (by omega) ha) (by rw [hpc a (by omega)]; omega), show d + 1 + 1 = n by omega] at e
  rw [Nat.zero_add]
  show some (nI (z_sm (z_cq (z_ct f c) n z b d true none a (2 ^ a)) n 0), w') = _
  rw [e]
end
