/-! the class's search of like graphs: what it finds, whole -/
theorem z_allin {n : Nat} {o : List Nat} (ho : z_go n o) (hl : o.length = n) : ∀ p, p < n → p ∈ o := by
  intro p hp
  apply Classical.byContradiction
  intro hn
  have h1 : (p :: o).Nodup := List.nodup_cons.mpr ⟨hn, ho.1⟩
  have h2 : (p :: o) ⊆ List.range n := by
    intro q hq
    rcases List.mem_cons.mp hq with e | e
    · rw [e]; exact List.mem_range.mpr hp
    · exact List.mem_range.mpr (ho.2 q e)
  have h3 := List.Nodup.length_le_of_subset h1 h2
  rw [List.length_cons, List.length_range] at h3
  omega
section
variable {w : x_W} {n g h : Nat} {f bs : Nat → Nat} {t : Nat → Nat → Nat}
theorem z_layW (hg : g ≤ 5) (hb : ∀ p, p < n → bs p < 64) : ∀ j k (o : List Nat) (w : x_W) c S, o.length + k = n → k < j → z_go n o → z_ly w n bs o c S → z_gc w g n f t h → ∃ w', fK_lay j w 11 (g + 1) (nI (z_set o)) (nI o.length) = some w' ∧ z_ly w' n bs o (c + (z_lv bs f n k o).length) (z_fand bs (z_lv bs f n k o) S) ∧ z_kK w w' := by
  intro j
  induction j with
  | zero => intro k o w c S _ hk; omega
  | succ j ih =>
    intro k o w c S hd hk ho Y G
    have hn := G.1.2.1
    have hfl : ∀ p, p < n → f p < 64 := fun p hp => Nat.lt_of_lt_of_le (G.1.2.2.1 p hp) (z_pow (by omega))
    have hs : z_set o < 64 := Nat.lt_of_lt_of_le (z_set_lt o ho.2) (z_pow hn)
    rw [fK_lay, (z_lk0 (z_ly_lk Y)).2.2.2.2.2, Option.bind_some]
    cases k with
    | zero =>
      rw [if_neg (nI_nlt (show n ≤ o.length by omega) (by omega))]
      obtain ⟨w', b1, b2, b3⟩ := z_takeW Y hn (z_allin ho (by omega))
      exact ⟨w', by rw [b1, Option.bind_some], b2, b3⟩
    | succ k =>
      rw [if_pos (nI_lt (show o.length < n by omega) (by omega))]
      have loop : ∀ m p fuel (w : x_W) c S, p + m = n → m < fuel → z_ly w n bs o c S → z_gc w g n f t h → ∃ w', fK_lay_16 (fK_lay j) fuel w 11 (g + 1) (nI (z_set o)) (nI o.length) (nI p) = some w' ∧ z_ly w' n bs o (c + (z_lw bs f n (z_lv bs f n k) o m p).length) (z_fand bs (z_lw bs f n (z_lv bs f n k) o m p) S) ∧ z_kK w w' := by
        intro m
        induction m with
        | zero =>
          intro p fuel w c S hp hf Y G
          obtain ⟨q, rfl⟩ := z_suc hf
          exact ⟨w, by rw [fK_lay_16, (z_lk0 (z_ly_lk Y)).2.2.2.2.2, Option.bind_some, if_pos (nI_le (show n ≤ p by omega) (by omega))], Y, fun _ _ => rfl⟩
        | succ m ihm =>
          intro p fuel w c S hp hf Y G
          obtain ⟨q, rfl⟩ := z_suc hf
          have hpn : p < n := by omega
          have hp6 : p < 6 := by omega
          have L := z_ly_lk Y
          rw [fK_lay_16, (z_lk0 L).2.2.2.2.2, Option.bind_some, if_neg (nI_ge hpn (by omega)), z_inc, z_has _ hs _ hp6, z_lw]
          by_cases c1 : (z_set o).testBit p = true
          · rw [if_pos c1, if_neg (by decide), if_neg (by unfold z_mly; rw [c1]; simp), List.nil_append]
            exact ihm (p + 1) q w c S (by omega) (by omega) Y G
          · have hpo : p ∉ o := fun e => c1 ((z_set_bit o).mpr e)
            have c1' : (z_set o).testBit p = false := by simpa using c1
            rw [if_neg c1, if_pos rfl, z_lstW Y hn hb ho (by omega) hpn, Option.bind_some]
            cases c2 : z_lst bs p o with
            | false =>
              rw [if_pos (by rfl), if_neg (by unfold z_mly; rw [c2]; simp), List.nil_append]
              exact ihm (p + 1) q w c S (by omega) (by omega) Y G
            | true =>
              obtain ⟨w1, a1, a2, a3, a4, a5⟩ := z_ly_w14 Y hpo hp6
              have G1 := z_kK_G a3 hg G
              have L1 := z_ly_lk a2
              have hu : bs p &&& z_set o < 64 := Nat.lt_of_le_of_lt Nat.and_le_left (hb p hpn)
              obtain ⟨B, y2, hB⟩ := Y.2.1
              rw [if_neg (show ¬ z_b01 true = 0 by decide), (z_lk0 L).2.2.2.1, Option.bind_some, (z_lk0 L).2.1, Option.bind_some, z_ai y2 hp6 (by omega), Option.bind_some, hB p hpn, z_and, a1, Option.bind_some, (z_G0 G1).2.2.2.2.2.2.1, Option.bind_some, (z_G0 G1).2.2.2.2.2.2.2 p hpn, Option.bind_some, (z_lk0 L1).1, Option.bind_some, z_mtaW a2 hn hb hpn hu (hfl p hpn) a4, Option.bind_some]
              cases c3 : z_mta bs (bs p &&& z_set o) (f p) n 0 with
              | false =>
                rw [if_pos (by rfl), if_neg (by unfold z_mly; rw [c3]; simp), List.nil_append]
                obtain ⟨w', b1, b2, b3⟩ := ihm (p + 1) q w1 c S (by omega) (by omega) a2 G1
                exact ⟨w', b1, b2, z_kK_t a3 b3⟩
              | true =>
                obtain ⟨w2, d1, d2, d3⟩ := z_ly_w13 a2 a5 (show o.length < 6 by omega)
                have G2 := z_kK_G d3 hg G1
                have ho2 : z_go n (p :: o) := ⟨List.nodup_cons.mpr ⟨hpo, ho.1⟩, fun r hr => by
                  rcases List.mem_cons.mp hr with e | e
                  · rw [e]; exact hpn
                  · exact ho.2 r e⟩
                obtain ⟨w3, e1, e2, e3⟩ := ih k (p :: o) w2 c S (by rw [List.length_cons]; omega) (by omega) ho2 d2 G2
                have G3 := z_kK_G e3 hg G2
                rw [z_set, List.length_cons] at e1
                rw [if_neg (show ¬ z_b01 true = 0 by decide), (z_lk0 L1).2.2.1, Option.bind_some, d1, Option.bind_some, (z_lk0 (z_ly_lk d2)).1, Option.bind_some, z_inc, z_bit p (by omega), z_or, e1, Option.bind_some]
                obtain ⟨w', b1, b2, b3⟩ := ihm (p + 1) q w3 _ _ (by omega) (by omega) (z_ly_less e2 hpo) G3
                refine ⟨w', b1, ?_, z_kK_t a3 (z_kK_t d3 (z_kK_t e3 b3))⟩
                rw [if_pos (by unfold z_mly; rw [c1', c2, c3]; rfl), List.length_append, z_fand_app, ← Nat.add_assoc]
                exact b2
      exact loop n 0 x_F w c S (by omega) (by unfold x_F; omega) Y G
theorem z_bsd64 {p : Nat} (hn : n ≤ 6) (hf : ∀ p, p < n → f p < 2 ^ p) (hp : p < n) : z_bsd f n p < 64 := by
  unfold z_bsd
  exact Nat.or_lt_two_pow (n := 6) (Nat.lt_of_lt_of_le (hf p hp) (z_pow (by omega))) (Nat.lt_of_lt_of_le (z_mk_lt _ n) (z_pow hn))
theorem z_findW (S : z_sc w) (hg : g ≤ 5) (G : z_gc w g n f t h) : ∃ w', fK_find w 11 (g + 1) = some w' ∧ z_ly w' n (z_bsd f n) [] (z_lv (z_bsd f n) f n n []).length (z_fand (z_bsd f n) (z_lv (z_bsd f n) f n n []) f) ∧ z_kK w w' := by
  have hn := G.1.2.1
  have hb : ∀ p, p < n → z_bsd f n p < 64 := fun p hp => z_bsd64 hn G.1.2.2.1 hp
  obtain ⟨s1, ⟨s, d, l0⟩, ⟨B, l1⟩, ⟨O, l2⟩, ⟨P, l3⟩, ⟨U, l4⟩, -⟩ := S
  have loop : ∀ m p fuel (w : x_W) B U, p + m = n → m < fuel → w[11]? = some (.inr (4, [.ref 12, .ref 13, .ref 14, .ref 15, .int (nI n), .int (nI 0)])) → w[12]? = some (.inl (6, B)) → w[13]? = some (.inl (6, O)) → w[14]? = some (.inl (6, P)) → w[15]? = some (.inl (6, U)) → (∀ q, q < p → B q = nI (z_bsd f n q) ∧ U q = nI (f q)) → z_gc w g n f t h → ∃ w', fK_find_15 fuel w 11 (g + 1) (nI p) = some w' ∧ z_ly w' n (z_bsd f n) [] (z_lv (z_bsd f n) f n n []).length (z_fand (z_bsd f n) (z_lv (z_bsd f n) f n n []) f) ∧ z_kK w w' := by
    intro m
    induction m with
    | zero =>
      intro p fuel w B U hp hf h11 h12 h13 h14 h15 hq G
      obtain ⟨q, rfl⟩ := z_suc hf
      have Y : z_ly w n (z_bsd f n) [] 0 f := ⟨h11, ⟨B, h12, fun r hr => (hq r (by omega)).1⟩, ⟨O, h13, trivial⟩, ⟨P, h14, fun r hr => absurd hr List.not_mem_nil⟩, U, h15, fun r hr => (hq r (by omega)).2⟩
      obtain ⟨w', b1, b2, b3⟩ := z_layW hg hb 8 n [] w 0 f (by rw [List.length_nil]; omega) (by omega) ⟨List.nodup_nil, fun r hr => absurd hr List.not_mem_nil⟩ Y G
      rw [Nat.zero_add] at b2
      refine ⟨w', ?_, b2, b3⟩
      have b1' : fK_lay 8 w 11 (g + 1) 0 0 = some w' := b1
      rw [fK_find_15, (z_lk0 (z_ly_lk Y)).2.2.2.2.2, Option.bind_some, if_pos (nI_le (show n ≤ p by omega) (by omega)), b1', Option.bind_some]
    | succ m ihm =>
      intro p fuel w B U hp hf h11 h12 h13 h14 h15 hq G
      obtain ⟨q, rfl⟩ := z_suc hf
      have hlt : p < n := by omega
      have bs := z_besideOf (z_gc_arr G) hlt
      have e1 : ∀ j, j ≠ 12 → (w.set 12 (.inl (6, upd B p (nI (z_bsd f n p)))))[j]? = w[j]? := fun j hj => z_else (Ne.symm hj)
      have h15' : (w.set 12 (.inl (6, upd B p (nI (z_bsd f n p)))))[15]? = some (.inl (6, U)) := by rw [e1 15 (by omega)]; exact h15
      have h11' : (w.set 12 (.inl (6, upd B p (nI (z_bsd f n p)))))[11]? = some (.inr (4, [.ref 12, .ref 13, .ref 14, .ref 15, .int (nI n), .int (nI 0)])) := by rw [e1 11 (by omega)]; exact h11
      have G1 : z_gc (w.set 12 (.inl (6, upd B p (nI (z_bsd f n p))))) g n f t h := z_gc_same G (fun j q1 q2 => e1 j (by omega))
      have e2 : ∀ j, j ≠ 15 → ((w.set 12 (.inl (6, upd B p (nI (z_bsd f n p))))).set 15 (.inl (6, upd U p (nI (f p)))))[j]? = (w.set 12 (.inl (6, upd B p (nI (z_bsd f n p)))))[j]? := fun j hj => z_else (Ne.symm hj)
      obtain ⟨w', b1, b2, b3⟩ := ihm (p + 1) q ((w.set 12 (.inl (6, upd B p (nI (z_bsd f n p))))).set 15 (.inl (6, upd U p (nI (f p))))) (upd B p (nI (z_bsd f n p))) (upd U p (nI (f p))) (by omega) (by omega) (by rw [e2 11 (by omega)]; exact h11') (by rw [e2 12 (by omega)]; exact z_self h12) (by rw [e2 13 (by omega), e1 13 (by omega)]; exact h13) (by rw [e2 14 (by omega), e1 14 (by omega)]; exact h14) (z_self h15') (fun r hr => by
        by_cases cr : r = p
        · subst cr; exact ⟨z_upd_s, z_upd_s⟩
        · rw [z_upd_n cr, z_upd_n cr]; exact hq r (by omega)) (z_gc_same G1 (fun j q1 q2 => e2 j (by omega)))
      refine ⟨w', ?_, b2, fun j hj => by rw [b3 j hj, e2 j (by omega), e1 j (by omega)]⟩
      have r4 : x_fi w 11 4 4 = some (nI n) := by rw [z_fi h11]; rfl
      have r0 : x_fr w 11 4 0 = some 12 := by rw [z_fr h11]; rfl
      have r3 : x_fr (w.set 12 (.inl (6, upd B p (nI (z_bsd f n p))))) 11 4 3 = some 15 := by rw [z_fr h11']; rfl
      have pa1 : x_pa w 12 (nI p) (nI (f p ||| z_mk (fun j => (f j).testBit p) n)) = some (w.set 12 (.inl (6, upd B p (nI (z_bsd f n p))))) := z_pa h12 (show p < 6 by omega) (by omega)
      rw [fK_find_15, r4, Option.bind_some, if_neg (nI_ge hlt (by omega)), r0, Option.bind_some, (z_G0 G).2.2.2.2.1, Option.bind_some, bs, Option.bind_some, pa1, Option.bind_some, r3, Option.bind_some, (z_G0 G1).2.2.2.2.2.2.1, Option.bind_some, (z_G0 G1).2.2.2.2.2.2.2 p hlt, Option.bind_some, z_pa h15' (show p < 6 by omega) (by omega), Option.bind_some, z_inc]
      exact b1
  have e : ∀ j, j ≠ 11 → (w.set 11 (.inr (4, [.ref 12, .ref 13, .ref 14, .ref 15, .int (nI n), .int (nI 0)])))[j]? = w[j]? := fun j hj => z_else (Ne.symm hj)
  obtain ⟨w', b1, b2, b3⟩ := loop n 0 x_F _ B U (by omega) (by unfold x_F; omega) (z_self l0) (by rw [e 12 (by omega)]; exact l1) (by rw [e 13 (by omega)]; exact l2) (by rw [e 14 (by omega)]; exact l3) (by rw [e 15 (by omega)]; exact l4) (fun q hq => absurd hq (by omega)) (z_gc_same G (fun j q1 q2 => e j (by omega)))
  refine ⟨w', ?_, b2, fun j hj => by rw [b3 j hj, e j (by omega)]⟩
  unfold fK_find
  rw [(z_G0 G).2.2.2.2.2.1, Option.bind_some, z_pf l0 (by simp), Option.bind_some]
  have s2 := z_self (c' := .inr (4, [.ref 12, .ref 13, .ref 14, .ref 15, .int (nI n), .int d])) l0
  show (x_pf (w.set 11 (.inr (4, [.ref 12, .ref 13, .ref 14, .ref 15, .int (nI n), .int d]))) 11 4 5 (.int 0)).bind _ = _
  rw [z_pf s2 (by simp), Option.bind_some, List.set_set]
  exact b1
end
