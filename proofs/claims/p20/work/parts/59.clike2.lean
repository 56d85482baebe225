/-! the class's search of like graphs ends well, whole -/
section
variable {w : x_W} {n g h : Nat} {f : Nat → Nat} {t : Nat → Nat → Nat}
theorem z_kL_G {w w' : x_W} (K : z_kL w w' n) (hg : g ≤ 5) (G : z_gc w g n f t h) : z_gc w' g n f t h := z_gc_same G (fun j h1 h2 => K.2 j (by omega))
theorem z_lay (hg : g ≤ 5) : ∀ j k depth (w : x_W) (laid : Int32), depth + k = n → k < j → z_lk w n → z_gc w g n f t h → ∃ w', fK_lay j w 11 (g + 1) laid (nI depth) = some w' ∧ z_kL w w' n := by
  intro j
  induction j with
  | zero => intro k depth w laid _ hk; omega
  | succ j ih =>
    intro k depth w laid hd hk L G
    have hn := G.1.2.1
    rw [fK_lay, (z_lk0 L).2.2.2.2.2, Option.bind_some]
    by_cases c : depth < n
    · rw [if_pos (nI_lt c (by omega))]
      have loop : ∀ m p fuel (w : x_W), p + m = n → m < fuel → z_lk w n → z_gc w g n f t h → ∃ w', fK_lay_16 (fK_lay j) fuel w 11 (g + 1) laid (nI depth) (nI p) = some w' ∧ z_kL w w' n := by
        intro m
        induction m with
        | zero =>
          intro p fuel w hp hf L G
          obtain ⟨q, rfl⟩ := z_suc hf
          exact ⟨w, by rw [fK_lay_16, (z_lk0 L).2.2.2.2.2, Option.bind_some, if_pos (nI_le (show n ≤ p by omega) (by omega))], L, fun _ _ => rfl⟩
        | succ m ihm =>
          intro p fuel w hp hf L G
          obtain ⟨q, rfl⟩ := z_suc hf
          have hp6 : p < 6 := by omega
          rw [fK_lay_16, (z_lk0 L).2.2.2.2.2, Option.bind_some, if_neg (nI_ge (show p < n by omega) (by omega)), z_inc]
          by_cases c1 : fA_has laid (nI p) = 0
          · rw [if_pos c1]
            obtain ⟨r, hr⟩ := z_least L hp6 depth x_F (by omega) (by unfold x_F; omega)
            unfold fK_isLeastOrder
            rw [hr, Option.bind_some]
            by_cases c2 : r = 0
            · rw [if_pos c2]
              exact ihm (p + 1) q w (by omega) (by omega) L G
            · rw [if_neg c2]
              obtain ⟨x, hx⟩ := z_lkr L (r := 12) (by omega) (by omega) hp6
              obtain ⟨w1, a1, a2⟩ := z_lkw L (r := 14) (by omega) (by omega) hp6 (x &&& laid)
              have G1 := z_kL_G a2 hg G
              obtain ⟨r2, hr2⟩ := z_meetA a2.1 hn (nI (f p)) hp6
              rw [(z_lk0 L).2.2.2.1, Option.bind_some, (z_lk0 L).2.1, Option.bind_some, hx, Option.bind_some, a1, Option.bind_some, (z_G0 G1).2.2.2.2.2.2.1, Option.bind_some, (z_G0 G1).2.2.2.2.2.2.2 p (by omega), Option.bind_some, (z_lk0 a2.1).1, Option.bind_some, hr2, Option.bind_some]
              by_cases c3 : r2 = 0
              · rw [if_pos c3]
                obtain ⟨w', b1, b2⟩ := ihm (p + 1) q w1 (by omega) (by omega) a2.1 G1
                exact ⟨w', b1, z_kL_t a2 b2⟩
              · rw [if_neg c3]
                obtain ⟨w2, d1, d2⟩ := z_lkw a2.1 (r := 13) (by omega) (by omega) (show depth < 6 by omega) (nI p)
                have G2 := z_kL_G d2 hg G1
                obtain ⟨w3, e1, e2⟩ := ih (k - 1) (depth + 1) w2 (laid ||| ((1 : Int32) <<< (nI p &&& 31))) (by omega) (by omega) d2.1 G2
                have G3 := z_kL_G e2 hg G2
                rw [(z_lk0 a2.1).2.2.1, Option.bind_some, d1, Option.bind_some, (z_lk0 d2.1).1, Option.bind_some, z_inc, e1, Option.bind_some]
                obtain ⟨w', b1, b2⟩ := ihm (p + 1) q w3 (by omega) (by omega) e2.1 G3
                exact ⟨w', b1, z_kL_t a2 (z_kL_t d2 (z_kL_t e2 b2))⟩
          · rw [if_neg c1]
            exact ihm (p + 1) q w (by omega) (by omega) L G
      exact loop n 0 x_F w (by omega) (by unfold x_F; omega) L G
    · rw [if_neg (nI_nlt (show n ≤ depth by omega) (by omega))]
      obtain ⟨w', b1, b2⟩ := z_takeUp L hn
      exact ⟨w', by rw [b1, Option.bind_some], b2⟩
theorem z_find (S : z_sc w) (hg : g ≤ 5) (G : z_gc w g n f t h) : ∃ w', fK_find w 11 (g + 1) = some w' ∧ z_kL w w' n := by
  have hn := G.1.2.1
  obtain ⟨s1, ⟨s, d, l0⟩, l1, l2, l3, l4, -⟩ := S
  have e : ∀ j, j ≠ 11 → (w.set 11 (.inr (4, [.ref 12, .ref 13, .ref 14, .ref 15, .int (nI n), .int 0])))[j]? = w[j]? := fun j hj => z_else (Ne.symm hj)
  have K : z_kL w (w.set 11 (.inr (4, [.ref 12, .ref 13, .ref 14, .ref 15, .int (nI n), .int 0]))) n := ⟨⟨⟨_, z_self l0⟩, by rw [e 12 (by omega)]; exact l1, by rw [e 13 (by omega)]; exact l2, by rw [e 14 (by omega)]; exact l3, by rw [e 15 (by omega)]; exact l4⟩, fun j hj => e j (by omega)⟩
  have loop : ∀ m p fuel (w : x_W), p + m = n → m < fuel → z_lk w n → z_gc w g n f t h → ∃ w', fK_find_15 fuel w 11 (g + 1) (nI p) = some w' ∧ z_kL w w' n := by
    intro m
    induction m with
    | zero =>
      intro p fuel w hp hf L G
      obtain ⟨q, rfl⟩ := z_suc hf
      obtain ⟨w', b1, b2⟩ := z_lay hg 8 n 0 w 0 (by omega) (by omega) L G
      refine ⟨w', ?_, b2⟩
      rw [show nI 0 = (0 : Int32) from rfl] at b1
      rw [fK_find_15, (z_lk0 L).2.2.2.2.2, Option.bind_some, if_pos (nI_le (show n ≤ p by omega) (by omega)), b1, Option.bind_some]
    | succ m ihm =>
      intro p fuel w hp hf L G
      obtain ⟨q, rfl⟩ := z_suc hf
      have hlt : p < n := by omega
      have bs := z_besideOf (z_gc_arr G) hlt
      obtain ⟨w1, a1, a2⟩ := z_lkw L (r := 12) (i := p) (by omega) (by omega) (by omega) _
      have G1 := z_kL_G a2 hg G
      obtain ⟨w2, d1, d2⟩ := z_lkw a2.1 (r := 15) (i := p) (by omega) (by omega) (by omega) (nI (f p))
      have G2 := z_kL_G d2 hg G1
      obtain ⟨w', b1, b2⟩ := ihm (p + 1) q w2 (by omega) (by omega) d2.1 G2
      refine ⟨w', ?_, z_kL_t a2 (z_kL_t d2 b2)⟩
      rw [fK_find_15, (z_lk0 L).2.2.2.2.2, Option.bind_some, if_neg (nI_ge hlt (by omega)), (z_lk0 L).2.1, Option.bind_some, (z_G0 G).2.2.2.2.1, Option.bind_some, bs, Option.bind_some, a1, Option.bind_some, (z_lk0 a2.1).2.2.2.2.1, Option.bind_some, (z_G0 G1).2.2.2.2.2.2.1, Option.bind_some, (z_G0 G1).2.2.2.2.2.2.2 p hlt, Option.bind_some, d1, Option.bind_some, z_inc]
      exact b1
  obtain ⟨w', b1, b2⟩ := loop n 0 x_F _ (by omega) (by unfold x_F; omega) K.1 (z_kL_G K hg G)
  refine ⟨w', ?_, z_kL_t K b2⟩
  unfold fK_find
  rw [(z_G0 G).2.2.2.2.2.1, Option.bind_some, z_pf l0 (by simp), Option.bind_some]
  have s2 := z_self (c' := .inr (4, [.ref 12, .ref 13, .ref 14, .ref 15, .int (nI n), .int d])) l0
  show (x_pf (w.set 11 (.inr (4, [.ref 12, .ref 13, .ref 14, .ref 15, .int (nI n), .int d]))) 11 4 5 (.int 0)).bind _ = _
  rw [z_pf s2 (by simp), Option.bind_some, List.set_set]
  exact b1
end
