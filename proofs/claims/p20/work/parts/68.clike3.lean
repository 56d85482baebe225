/-! the class's search of like graphs: what it finds -/
def z_bsd (f : Nat → Nat) (n p : Nat) : Nat := f p ||| z_mk (fun j => (f j).testBit p) n
/-- the set of the places laid, the last first -/
def z_set : List Nat → Nat
  | [] => 0
  | p :: o => z_set o ||| 2 ^ p
/-- no greater place stands between p and the last beside it -/
def z_lst (bs : Nat → Nat) (p : Nat) : List Nat → Bool
  | [] => true
  | q :: o => if (bs p).testBit q then true else if p < q then false else z_lst bs p o
def z_unjo (bs : Nat → Nat) (s a : Nat) : Nat := if s.testBit a then s &&& (63 - bs a) &&& (63 - 2 ^ a) else 0
def z_mta (bs : Nat → Nat) (u v : Nat) : Nat → Nat → Bool
  | 0, _ => true
  | k + 1, a => if z_unjo bs u a = z_unjo bs v a then z_mta bs u v k (a + 1) else false
/-- the parents of each place that an order gives -/
def z_uo (bs : Nat → Nat) : List Nat → Nat → Nat
  | [], _ => 0
  | q :: o, p => if p = q then bs q &&& z_set o else z_uo bs o p
def z_mly (bs f : Nat → Nat) (n : Nat) (o : List Nat) (p : Nat) : Bool := !(z_set o).testBit p && (z_lst bs p o && z_mta bs (bs p &&& z_set o) (f p) n 0)
def z_lw (bs f : Nat → Nat) (n : Nat) (rec : List Nat → List (List Nat)) (o : List Nat) : Nat → Nat → List (List Nat)
  | 0, _ => []
  | m + 1, p => (if z_mly bs f n o p then rec (p :: o) else []) ++ z_lw bs f n rec o m (p + 1)
def z_lv (bs f : Nat → Nat) (n : Nat) : Nat → List Nat → List (List Nat)
  | 0, o => [o]
  | k + 1, o => z_lw bs f n (z_lv bs f n k) o n 0
def z_fand (bs : Nat → Nat) : List (List Nat) → (Nat → Nat) → Nat → Nat
  | [], S => S
  | o :: l, S => z_fand bs l (fun p => S p &&& z_uo bs o p)
theorem z_fand_app (bs : Nat → Nat) : ∀ l l' S, z_fand bs (l ++ l') S = z_fand bs l' (z_fand bs l S)
  | [], l', S => rfl
  | o :: l, l', S => z_fand_app bs l l' _
def z_oo (O : Nat → Int32) : List Nat → Prop
  | [] => True
  | q :: o => O o.length = nI q ∧ z_oo O o
theorem z_oo_upd {O : Nat → Int32} {x : Int32} : ∀ (o : List Nat) (i : Nat), o.length ≤ i → z_oo O o → z_oo (upd O i x) o
  | [], _, _, _ => trivial
  | q :: o, i, h, ⟨h1, h2⟩ => by
    rw [List.length_cons] at h
    exact ⟨by rw [z_upd_n (by omega)]; exact h1, z_oo_upd o i (by omega) h2⟩
def z_ly (w : x_W) (n : Nat) (bs : Nat → Nat) (o : List Nat) (c : Nat) (S : Nat → Nat) : Prop := w[11]? = some (.inr (4, [.ref 12, .ref 13, .ref 14, .ref 15, .int (nI n), .int (nI c)])) ∧ (∃ B, w[12]? = some (.inl (6, B)) ∧ ∀ p, p < n → B p = nI (bs p)) ∧ (∃ O, w[13]? = some (.inl (6, O)) ∧ z_oo O o) ∧ (∃ P, w[14]? = some (.inl (6, P)) ∧ ∀ p, p ∈ o → P p = nI (z_uo bs o p)) ∧ ∃ U, w[15]? = some (.inl (6, U)) ∧ ∀ p, p < n → U p = nI (S p)
def z_kK (w w' : x_W) : Prop := ∀ j, j < 11 ∨ 15 < j → w'[j]? = w[j]?
theorem z_kK_t {w w' w'' : x_W} (K : z_kK w w') (K' : z_kK w' w'') : z_kK w w'' := fun j hj => by rw [K' j hj, K j hj]
/-- an order of places: all of them there, none twice -/
def z_go (n : Nat) (o : List Nat) : Prop := o.Nodup ∧ ∀ p, p ∈ o → p < n
theorem z_set_lt {n : Nat} : ∀ o : List Nat, (∀ p, p ∈ o → p < n) → z_set o < 2 ^ n
  | [], _ => Nat.two_pow_pos n
  | p :: o, h => Nat.or_lt_two_pow (z_set_lt o (fun q hq => h q (List.mem_cons_of_mem _ hq))) (Nat.pow_lt_pow_right (by omega) (h p List.mem_cons_self))
theorem z_set_bit {q : Nat} : ∀ o : List Nat, (z_set o).testBit q = true ↔ q ∈ o
  | [] => by simp [z_set]
  | p :: o => by
    rw [z_set, Nat.testBit_or, Nat.testBit_two_pow, Bool.or_eq_true, z_set_bit o, List.mem_cons]
    simp [eq_comm, or_comm]
theorem z_uo_lt {bs : Nat → Nat} {n : Nat} (hb : ∀ p, p < n → bs p < 64) : ∀ (o : List Nat) p, (∀ p, p ∈ o → p < n) → z_uo bs o p < 64
  | [], p, _ => by unfold z_uo; omega
  | q :: o, p, h => by
    unfold z_uo
    split
    · exact Nat.lt_of_le_of_lt Nat.and_le_left (hb q (h q List.mem_cons_self))
    · exact z_uo_lt hb o p (fun p hp => h p (List.mem_cons_of_mem _ hp))
section
variable {w : x_W} {n g h c : Nat} {f bs S : Nat → Nat} {t : Nat → Nat → Nat} {o : List Nat}
theorem z_ly_lk (Y : z_ly w n bs o c S) : z_lk w n := by
  obtain ⟨y1, ⟨B, y2, -⟩, ⟨O, y3, -⟩, ⟨P, y4, -⟩, ⟨U, y5, -⟩⟩ := Y
  exact ⟨⟨_, y1⟩, ⟨_, y2⟩, ⟨_, y3⟩, ⟨_, y4⟩, ⟨_, y5⟩⟩
theorem z_kK_L {w' : x_W} (Y : z_ly w' n bs o c S) (K : z_kK w w') : z_kL w w' n := ⟨z_ly_lk Y, K⟩
theorem z_kK_G {w' : x_W} (K : z_kK w w') (hg : g ≤ 5) (G : z_gc w g n f t h) : z_gc w' g n f t h := z_gc_same G (fun j h1 h2 => K j (by omega))
theorem z_lstW (Y : z_ly w n bs o c S) (hn : n ≤ 6) (hb : ∀ p, p < n → bs p < 64) (ho : z_go n o) (hl : o.length ≤ n) {p : Nat} (hp : p < n) : fK_isLeastOrder w 11 (nI p) (nI o.length) = some (z_b01 (z_lst bs p o)) := by
  have L := z_ly_lk Y
  obtain ⟨y1, ⟨B, y2, hB⟩, ⟨O, y3, hO⟩, -⟩ := Y
  have go : ∀ (o' : List Nat) fuel, o'.length ≤ 6 → o'.length < fuel → (∀ q, q ∈ o' → q < n) → z_oo O o' → fK_isLeastOrder_4 w fuel 11 (nI p) (nI o'.length - 1) = some (z_b01 (z_lst bs p o')) := by
    intro o'
    induction o' with
    | nil =>
      intro fuel h6 hf _ _
      obtain ⟨m, rfl⟩ := z_suc hf
      rw [fK_isLeastOrder_4, if_pos (by decide)]; rfl
    | cons q o' ih =>
      intro fuel h6 hf hq hO'
      obtain ⟨m, rfl⟩ := z_suc hf
      rw [List.length_cons] at h6 hf ⊢
      have hqn := hq q List.mem_cons_self
      have e1 : nI (o'.length + 1) - 1 = nI o'.length := by rw [show (1 : Int32) = nI 1 from rfl, pk_sub (by omega)]; rfl
      have e2 : nI o'.length + (-1) = nI o'.length - 1 := (Int32.sub_eq_add_neg (nI o'.length) 1).symm
      rw [fK_isLeastOrder_4, e1, e2, if_neg (nI_pos (by omega)), (z_lk0 L).2.1, Option.bind_some, z_ai y2 (show p < 6 by omega) (by omega), Option.bind_some, hB p hp, (z_lk0 L).2.2.1, Option.bind_some, z_ai y3 (show o'.length < 6 by omega) (by omega), Option.bind_some, hO'.1, z_has _ (hb p hp) _ (show q < 6 by omega), z_lst, ih m (by omega) (by omega) (fun r hr => hq r (List.mem_cons_of_mem _ hr)) hO'.2]
      by_cases c1 : (bs p).testBit q = true
      · rw [if_pos c1, if_pos c1, if_neg (by decide)]; rfl
      · rw [if_neg c1, if_neg c1, if_pos rfl]
        by_cases c2 : p < q
        · rw [if_pos c2, if_neg (nI_ge c2 (by omega))]; rfl
        · rw [if_neg c2, if_pos (nI_le (by omega) (by omega))]
  unfold fK_isLeastOrder
  exact go o x_F (by omega) (by unfold x_F; omega) ho.2 hO
theorem z_not2 {s a b : Nat} (hs : s < 64) (ha : a < 64) (hb : b < 6) : (nI s &&& (nI a ^^^ (-1))) &&& (((1 : Int32) <<< (nI b &&& 31)) ^^^ (-1)) = nI (s &&& (63 - a) &&& (63 - 2 ^ b)) := by
  have h2 : 2 ^ b < 64 := Nat.lt_of_lt_of_le (Nat.pow_lt_pow_right (by omega) hb) (by omega)
  rw [z_not _ hs _ ha, z_bit b (by omega), z_not _ (Nat.lt_of_le_of_lt Nat.and_le_left hs) _ h2]
theorem z_unjW (Y : z_ly w n bs o c S) (hn : n ≤ 6) (hb : ∀ p, p < n → bs p < 64) {s a : Nat} (hs : s < 64) (ha : a < n) : fK_unjoined w 11 (nI s) (nI a) = some (nI (z_unjo bs s a)) := by
  have L := z_ly_lk Y
  obtain ⟨y1, ⟨B, y2, hB⟩, -⟩ := Y
  unfold fK_unjoined z_unjo
  rw [z_has _ hs _ (show a < 6 by omega)]
  by_cases c1 : s.testBit a = true
  · rw [if_pos c1, if_neg (by decide), if_pos c1, (z_lk0 L).2.1, Option.bind_some, z_ai y2 (show a < 6 by omega) (by omega), Option.bind_some, hB a ha, z_not2 hs (hb a ha) (by omega)]
  · rw [if_neg c1, if_pos rfl, if_neg c1]; rfl
theorem z_unjo64 {s a : Nat} (hs : s < 64) : z_unjo bs s a < 64 := by
  unfold z_unjo
  split
  · exact Nat.lt_of_le_of_lt Nat.and_le_left (Nat.lt_of_le_of_lt Nat.and_le_left hs)
  · omega
theorem z_mtaW (Y : z_ly w n bs o c S) (hn : n ≤ 6) (hb : ∀ p, p < n → bs p < 64) {p u v : Nat} (hp : p < n) (hu : u < 64) (hv : v < 64) (h14 : x_ai w 14 (nI p) = some (nI u)) : fK_meetsAlike w 11 (nI p) (nI v) = some (z_b01 (z_mta bs u v n 0)) := by
  have L := z_ly_lk Y
  have loop : ∀ k a fuel, a + k = n → k < fuel → fK_meetsAlike_2 w fuel 11 (nI p) (nI v) (nI a) = some (z_b01 (z_mta bs u v k a)) := by
    intro k
    induction k with
    | zero =>
      intro a fuel ha hf
      obtain ⟨m, rfl⟩ := z_suc hf
      rw [fK_meetsAlike_2, (z_lk0 L).2.2.2.2.2, Option.bind_some, if_pos (nI_le (show n ≤ a by omega) (by omega))]; rfl
    | succ k ih =>
      intro a fuel ha hf
      obtain ⟨m, rfl⟩ := z_suc hf
      have hlt : a < n := by omega
      rw [fK_meetsAlike_2, (z_lk0 L).2.2.2.2.2, Option.bind_some, if_neg (nI_ge hlt (by omega)), (z_lk0 L).2.2.2.1, Option.bind_some, h14, Option.bind_some, z_unjW Y hn hb hu hlt, Option.bind_some, z_unjW Y hn hb hv hlt, Option.bind_some, z_inc, ih (a + 1) m (by omega) (by omega), z_mta]
      have b1 := z_unjo64 (bs := bs) (a := a) hu
      have b2 := z_unjo64 (bs := bs) (a := a) hv
      by_cases c1 : z_unjo bs u a = z_unjo bs v a
      · rw [if_pos c1, if_pos (by rw [c1])]
      · rw [if_neg c1, if_neg (fun e => c1 ((nI_eq (by omega) (by omega)).mp e))]; rfl
  unfold fK_meetsAlike
  exact loop n 0 x_F (by omega) (by unfold x_F; omega)
theorem z_ly_w13 (Y : z_ly w n bs o c S) {x : Nat} (h14 : ∃ P, w[14]? = some (.inl (6, P)) ∧ ∀ p, p ∈ x :: o → P p = nI (z_uo bs (x :: o) p)) (hl : o.length < 6) : ∃ w', x_pa w 13 (nI o.length) (nI x) = some w' ∧ z_ly w' n bs (x :: o) c S ∧ z_kK w w' := by
  obtain ⟨y1, y2, ⟨O, y3, hO⟩, y4, y5⟩ := Y
  have e : ∀ j, j ≠ 13 → (w.set 13 (.inl (6, upd O o.length (nI x))))[j]? = w[j]? := fun j hj => z_else (Ne.symm hj)
  exact ⟨_, z_pa y3 hl (by omega), ⟨by rw [e 11 (by omega)]; exact y1, by rw [e 12 (by omega)]; exact y2, ⟨_, z_self y3, ⟨z_upd_s, z_oo_upd o _ (Nat.le_refl _) hO⟩⟩, by rw [e 14 (by omega)]; exact h14, by rw [e 15 (by omega)]; exact y5⟩, fun j hj => e j (by omega)⟩
theorem z_ly_w14 (Y : z_ly w n bs o c S) {x : Nat} (hx : x ∉ o) (hx6 : x < 6) : ∃ w', x_pa w 14 (nI x) (nI (bs x &&& z_set o)) = some w' ∧ z_ly w' n bs o c S ∧ z_kK w w' ∧ x_ai w' 14 (nI x) = some (nI (bs x &&& z_set o)) ∧ ∃ P, w'[14]? = some (.inl (6, P)) ∧ ∀ p, p ∈ x :: o → P p = nI (z_uo bs (x :: o) p) := by
  obtain ⟨y1, y2, y3, ⟨P, y4, hP⟩, y5⟩ := Y
  have e : ∀ j, j ≠ 14 → (w.set 14 (.inl (6, upd P x (nI (bs x &&& z_set o)))))[j]? = w[j]? := fun j hj => z_else (Ne.symm hj)
  have s := z_self (c' := .inl (6, upd P x (nI (bs x &&& z_set o)))) y4
  refine ⟨_, z_pa y4 hx6 (by omega), ⟨by rw [e 11 (by omega)]; exact y1, by rw [e 12 (by omega)]; exact y2, by rw [e 13 (by omega)]; exact y3, ⟨_, s, fun p hp => ?_⟩, by rw [e 15 (by omega)]; exact y5⟩, fun j hj => e j (by omega), by rw [z_ai s hx6 (by omega), z_upd_s], _, s, fun p hp => ?_⟩
  · rw [z_upd_n (fun q => hx (by rw [← q]; exact hp)), hP p hp]
  · rw [z_uo]
    by_cases cp : p = x
    · subst cp
      rw [z_upd_s, if_pos rfl]
    · rw [z_upd_n cp, if_neg cp]
      rcases List.mem_cons.mp hp with q | q
      · exact absurd q cp
      · exact hP p q
theorem z_ly_less {x : Nat} (Y : z_ly w n bs (x :: o) c S) (hx : x ∉ o) : z_ly w n bs o c S := by
  obtain ⟨y1, y2, ⟨O, y3, hO⟩, ⟨P, y4, hP⟩, y5⟩ := Y
  refine ⟨y1, y2, ⟨O, y3, hO.2⟩, ⟨P, y4, fun p hp => ?_⟩, y5⟩
  rw [hP p (List.mem_cons_of_mem _ hp), z_uo, if_neg (fun q => hx (by rw [← q]; exact hp))]
theorem z_takeW (Y : z_ly w n bs o c S) (hn : n ≤ 6) (hall : ∀ p, p < n → p ∈ o) : ∃ w', fK_takeUp w 11 = some w' ∧ z_ly w' n bs o (c + 1) (fun p => S p &&& z_uo bs o p) ∧ z_kK w w' := by
  obtain ⟨y1, y2, y3, ⟨P, y4, hP⟩, ⟨U, y5, hU⟩⟩ := Y
  have loop : ∀ k q fuel (w : x_W) U, q + k = n → k < fuel → w[11]? = some (.inr (4, [.ref 12, .ref 13, .ref 14, .ref 15, .int (nI n), .int (nI (c + 1))])) → w[14]? = some (.inl (6, P)) → w[15]? = some (.inl (6, U)) → (∀ p, p < n → U p = if p < q then nI (S p &&& z_uo bs o p) else nI (S p)) → ∃ w' U', fK_takeUp_12 fuel w 11 (nI q) = some w' ∧ (∀ j, j ≠ 15 → w'[j]? = w[j]?) ∧ w'[15]? = some (.inl (6, U')) ∧ ∀ p, p < n → U' p = nI (S p &&& z_uo bs o p) := by
    intro k
    induction k with
    | zero =>
      intro q fuel w U hq hf h11 h14 h15 hU
      obtain ⟨m, rfl⟩ := z_suc hf
      refine ⟨w, U, ?_, fun _ _ => rfl, h15, fun p hp => by rw [hU p hp, if_pos (by omega)]⟩
      rw [fK_takeUp_12, z_fi h11]
      show (some (nI n)).bind _ = _
      rw [Option.bind_some, if_pos (nI_le (show n ≤ q by omega) (by omega))]
    | succ k ih =>
      intro q fuel w U hq hf h11 h14 h15 hU
      obtain ⟨m, rfl⟩ := z_suc hf
      have hlt : q < n := by omega
      have e : ∀ j, j ≠ 15 → (w.set 15 (.inl (6, upd U q (nI (S q &&& z_uo bs o q)))))[j]? = w[j]? := fun j hj => z_else (Ne.symm hj)
      obtain ⟨w', U', b1, b2, b3, b4⟩ := ih (q + 1) m (w.set 15 (.inl (6, upd U q (nI (S q &&& z_uo bs o q))))) (upd U q (nI (S q &&& z_uo bs o q))) (by omega) (by omega) (by rw [e 11 (by omega)]; exact h11) (by rw [e 14 (by omega)]; exact h14) (z_self h15) (fun p hp => by
        by_cases cp : p = q
        · subst cp; rw [z_upd_s, if_pos (by omega)]
        · rw [z_upd_n cp, hU p hp]
          by_cases c2 : p < q
          · rw [if_pos c2, if_pos (by omega)]
          · rw [if_neg c2, if_neg (by omega)])
      refine ⟨w', U', ?_, fun j hj => by rw [b2 j hj, e j hj], b3, b4⟩
      have r15 : x_fr w 11 4 3 = some 15 := by rw [z_fr h11]; rfl
      have r14 : x_fr w 11 4 2 = some 14 := by rw [z_fr h11]; rfl
      have rn : x_fi w 11 4 4 = some (nI n) := by rw [z_fi h11]; rfl
      rw [fK_takeUp_12, rn, Option.bind_some, if_neg (nI_ge hlt (by omega)), r15, Option.bind_some, z_ai h15 (show q < 6 by omega) (by omega), Option.bind_some, r14, Option.bind_some, z_ai h14 (show q < 6 by omega) (by omega), Option.bind_some, hU q hlt, if_neg (by omega), hP q (hall q hlt), z_and, z_pa h15 (show q < 6 by omega) (by omega), Option.bind_some, z_inc]
      exact b1
  have e : ∀ j, j ≠ 11 → (w.set 11 (.inr (4, [.ref 12, .ref 13, .ref 14, .ref 15, .int (nI n), .int (nI (c + 1))])))[j]? = w[j]? := fun j hj => z_else (Ne.symm hj)
  obtain ⟨w', U', b1, b2, b3, b4⟩ := loop n 0 x_F _ U (by omega) (by unfold x_F; omega) (z_self y1) (by rw [e 14 (by omega)]; exact y4) (by rw [e 15 (by omega)]; exact y5) (fun p hp => by rw [if_neg (by omega)]; exact hU p hp)
  refine ⟨w', ?_, ⟨by rw [b2 11 (by omega)]; exact z_self y1, by rw [b2 12 (by omega), e 12 (by omega)]; exact y2, by rw [b2 13 (by omega), e 13 (by omega)]; exact y3, ⟨P, by rw [b2 14 (by omega), e 14 (by omega)]; exact y4, hP⟩, U', b3, b4⟩, fun j hj => by rw [b2 j (by omega), e j (by omega)]⟩
  have r5 : x_fi w 11 4 5 = some (nI c) := by rw [z_fi y1]; rfl
  unfold fK_takeUp
  rw [r5, Option.bind_some, z_inc, z_pf y1 (by simp), Option.bind_some]
  exact b1
end
