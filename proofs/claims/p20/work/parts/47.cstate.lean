/-! the class's state, and what changes it -/
def z_cs (w : x_W) (n : Nat) (f : Nat → Nat) (t : Nat → Nat → Nat) (h n' : Nat) (f' : Nat → Nat) (t' : Nat → Nat → Nat) (h' : Nat) : Prop := ∃ g, z_A w g ∧ z_gc w g n f t h ∧ z_gc w (6 - g) n' f' t' h' ∧ z_sc w
def z_f1 (f : Nat → Nat) (p s q : Nat) : Nat := if q = p then s else f q
def z_t1 (t : Nat → Nat → Nat) (p q v : Nat) : Nat := if q = p then 8 else t q v
def z_t2 (t : Nat → Nat → Nat) (p u x q v : Nat) : Nat := if q = p ∧ v = u then x else t q v
theorem z_sc_same {w w' : x_W} (S : z_sc w) (e : ∀ j, 9 ≤ j → j ≤ 17 → w'[j]? = w[j]?) : z_sc w' := by
  unfold z_sc
  rw [e 9 (by omega) (by omega), e 10 (by omega) (by omega), e 11 (by omega) (by omega), e 12 (by omega) (by omega), e 13 (by omega) (by omega), e 14 (by omega) (by omega), e 15 (by omega) (by omega), e 16 (by omega) (by omega), e 17 (by omega) (by omega)]
  exact S
section
variable {w : x_W} {n n' h h' : Nat} {f f' : Nat → Nat} {t t' : Nat → Nat → Nat}
theorem z_Cbegin (C : z_cs w n f t h n' f' t' h') {k : Nat} (h1 : 1 ≤ k) (h6 : k ≤ 6) : ∃ w', fA_begin w 0 (nI k) = some (nI n, w') ∧ z_cs w' k (fun _ => 0) (fun _ _ => 8) 0 n' f' t' h' ∧ ∀ j, 18 ≤ j → w'[j]? = w[j]? := by
  obtain ⟨g, A, G, G', S⟩ := C
  have hg := A.2
  have b := z_G0 G
  obtain ⟨g0, g1, g2, F, U, g3, g4, g5, g6⟩ := G
  obtain ⟨w', F', U', r1, r2, r3, r4, r5, r6, r7, e⟩ := z_restart g1 g2 g3 g4 h6 (by omega) (by omega) (by omega) (by omega) (by omega) (by omega)
  refine ⟨w', ?_, ⟨g, ⟨by rw [e 0 (by omega) (by omega) (by omega) (by omega)]; exact A.1, A.2⟩, ?_, z_gc_same G' (fun j q1 q2 => e j (by omega) (by omega) (by omega) (by omega)), z_sc_same S (fun j q1 q2 => e j (by omega) (by omega) (by omega) (by omega))⟩, fun j hj => e j (by omega) (by omega) (by omega) (by omega)⟩
  · unfold fA_begin
    rw [if_neg (show ¬ nI k < (1 : Int32) from nI_nlt (b := 1) h1 (by omega)), if_pos (show nI k ≤ (6 : Int32) from nI_le (b := 6) h6 (by omega)), (z_A0 A).2.1, Option.bind_some, b.2.1, Option.bind_some, b.2.2.2.2.2.1, Option.bind_some, r1, Option.bind_some]
  · refine ⟨⟨h1, h6, fun p _ => Nat.two_pow_pos p, fun _ _ => show 8 ≤ 16 by omega, Nat.two_pow_pos k⟩, r2, r3, F', U', r4, r6, fun p hp => r5 p hp, fun p hp v hv _ => r7 _ (by omega)⟩
theorem z_Cbegin0 {x : Int32} (hx : ¬ ∃ k, 1 ≤ k ∧ k ≤ 6 ∧ x = nI k) : fA_begin w 0 x = some (-2, w) := by
  unfold fA_begin
  by_cases c : x < (1 : Int32)
  · rw [if_pos c]
  · rw [if_neg c, if_neg]
    intro c2
    have p0 : ¬ x < 0 := fun q => c (by
      rw [Int32.lt_iff_toInt_lt] at q ⊢
      rw [show (0 : Int32).toInt = 0 from rfl] at q
      rw [show (1 : Int32).toInt = 1 from rfl]
      omega)
    obtain ⟨j, j1, rfl⟩ := nI_of p0
    refine hx ⟨j, ?_, (nI_leI j1 (by omega)).mp (show nI j ≤ nI 6 from c2), rfl⟩
    rcases Nat.lt_or_ge j 1 with q | q
    · exact absurd (nI_lt q (by omega)) c
    · exact q
theorem z_Cparents (C : z_cs w n f t h n' f' t' h') {p s : Nat} (hp : p < n) (hs : s < 2 ^ p) : ∃ w', fA_parents w 0 (nI p) (nI s) = some (nI (f p), w') ∧ z_cs w' n (z_f1 f p s) (z_t1 t p) h n' f' t' h' ∧ ∀ j, 18 ≤ j → w'[j]? = w[j]? := by
  obtain ⟨g, A, G, G', S⟩ := C
  have hg := A.2
  have b := z_G0 G
  have hn := G.1.2.1
  have hpl := z_isPl A G hp
  have h64 : 2 ^ p ≤ 64 := z_pow (show p ≤ 6 by omega)
  obtain ⟨g0, g1, g2, F, U, g3, g4, g5, g6⟩ := G
  obtain ⟨w', U', r1, r2, r3, r4, e⟩ := z_putParents (x := nI s) g1 g2 g3 g4 (show p < 6 by omega) (by omega) (by omega) (by omega) (by omega) (by omega)
  refine ⟨w', ?_, ⟨g, ⟨by rw [e 0 (by omega) (by omega)]; exact A.1, A.2⟩, ?_, z_gc_same G' (fun j q1 q2 => e j (by omega) (by omega)), z_sc_same S (fun j q1 q2 => e j (by omega) (by omega))⟩, fun j hj => e j (by omega) (by omega)⟩
  · unfold fA_parents
    rw [(z_A0 A).1, Option.bind_some, hpl, Option.bind_some, if_neg (by decide), z_below p (by omega), z_within1 (by omega) (by omega) (z_sub_mask.mpr hs), if_neg (by decide), (z_A0 A).2.1, Option.bind_some, b.2.1, Option.bind_some, b.2.2.2.2.2.2.1, Option.bind_some, b.2.2.2.2.2.2.2 p hp, Option.bind_some, r1, Option.bind_some]
  · refine ⟨⟨g0.1, hn, ?_, ?_, g0.2.2.2.2⟩, by rw [e g (by omega) (by omega)]; exact g1, by rw [e (g + 1) (by omega) (by omega)]; exact g2, _, U', r2, r3, ?_, ?_⟩
    · intro q hq
      unfold z_f1
      by_cases c : q = p
      · rw [if_pos c, c]; exact hs
      · rw [if_neg c]; exact g0.2.2.1 q hq
    · intro q v
      unfold z_t1
      split
      · omega
      · exact g0.2.2.2.1 q v
    · intro q hq
      unfold z_f1
      by_cases c : q = p
      · rw [if_pos c, c, z_upd_s]
      · rw [if_neg c, z_upd_n c]; exact g5 q hq
    · intro q hq v hv hvs
      rw [r4]
      unfold z_t1
      by_cases c : q = p
      · rw [if_pos c, if_pos (by omega)]; rfl
      · rw [if_neg c, if_neg (by omega)]
        unfold z_f1 at hvs
        rw [if_neg c] at hvs
        exact g6 q hq v hv hvs
theorem z_Cparents0 (C : z_cs w n f t h n' f' t' h') {x y : Int32} (hx : ¬ ∃ p s, p < n ∧ s < 2 ^ p ∧ x = nI p ∧ y = nI s) : fA_parents w 0 x y = some (-2, w) := by
  obtain ⟨g, A, G, G', S⟩ := C
  have hn := G.1.2.1
  unfold fA_parents
  rw [(z_A0 A).1, Option.bind_some]
  by_cases c : ∃ k, k < n ∧ x = nI k
  · obtain ⟨p, hp, rfl⟩ := c
    have h64 : 2 ^ p ≤ 64 := z_pow (show p ≤ 6 by omega)
    have hpp := Nat.two_pow_pos p
    rw [z_isPl A G hp, Option.bind_some, if_neg (by decide), z_below p (by omega)]
    rcases z_within (m := 2 ^ p - 1) (by omega) y with ⟨s, q1, q2, rfl⟩ | q
    · exact absurd ⟨p, s, hp, z_sub_mask.mp q2, rfl, rfl⟩ hx
    · rw [q, if_pos rfl]
  · rw [z_isPl0 A G c, Option.bind_some, if_pos rfl]
theorem z_Cweight (C : z_cs w n f t h n' f' t' h') {p v x : Nat} (hp : p < n) (hv : v &&& f p = v) (hx : x ≤ 16) : ∃ w', fA_weight w 0 (nI p) (nI v) (nI x) = some (nI (t p v), w') ∧ z_cs w' n f (z_t2 t p v x) h n' f' t' h' ∧ ∀ j, 18 ≤ j → w'[j]? = w[j]? := by
  obtain ⟨g, A, G, G', S⟩ := C
  have hg := A.2
  have b := z_G0 G
  have hn := G.1.2.1
  have hpl := z_isPl A G hp
  have hwt := z_weightAt (x := v) (z_gc_gr G) hp
  rw [hv] at hwt
  obtain ⟨g0, g1, g2, F, U, g3, g4, g5, g6⟩ := G
  have hf32 : f p < 2 ^ 5 := Nat.lt_of_lt_of_le (g0.2.2.1 p hp) (Nat.pow_le_pow_right (by omega) (show p ≤ 5 by omega))
  have hv32 : v < 32 := by
    have : v ≤ f p := by rw [← hv]; exact Nat.and_le_right
    omega
  have e : ∀ j, j ≠ g + 3 → (w.set (g + 3) (.inl (192, upd U (p * 32 + v) (nI x))))[j]? = w[j]? := fun j hj => z_else (Ne.symm hj)
  refine ⟨w.set (g + 3) (.inl (192, upd U (p * 32 + v) (nI x))), ?_, ⟨g, ⟨by rw [e 0 (by omega)]; exact A.1, A.2⟩, ?_, z_gc_same G' (fun j q1 q2 => e j (by omega)), z_sc_same S (fun j q1 q2 => e j (by omega))⟩, fun j hj => e j (by omega)⟩
  · unfold fA_weight fG_putWeight
    rw [(z_A0 A).1, Option.bind_some, hpl, Option.bind_some, if_neg (by decide), (z_A0 A).2.1, Option.bind_some, b.2.1, Option.bind_some, b.2.2.2.2.2.2.1, Option.bind_some, b.2.2.2.2.2.2.2 p hp, Option.bind_some, z_within1 (by omega) (by omega) hv, if_neg (by decide), if_neg (nI_pos (by omega)), if_pos (show nI x ≤ (16 : Int32) from nI_le (b := 16) hx (by omega)), hwt, Option.bind_some, b.2.2.1, Option.bind_some, show (32 : Int32) = nI 32 from rfl, pk_mul, nI_add, z_pa g4 (by omega) (by omega), Option.bind_some, Option.bind_some]
  · refine ⟨⟨g0.1, hn, g0.2.2.1, ?_, g0.2.2.2.2⟩, by rw [e g (by omega)]; exact g1, by rw [e (g + 1) (by omega)]; exact g2, F, _, by rw [e (g + 2) (by omega)]; exact g3, z_self g4, g5, ?_⟩
    · intro q u
      unfold z_t2
      split
      · exact hx
      · exact g0.2.2.2.1 q u
    · intro q hq u hu hus
      unfold z_t2
      by_cases c : q = p ∧ u = v
      · rw [if_pos c, c.1, c.2, z_upd_s]
      · rw [if_neg c, z_upd_n (by omega)]
        exact g6 q hq u hu hus
theorem z_Cweight0 (C : z_cs w n f t h n' f' t' h') {a y z : Int32} (hx : ¬ ∃ p v x, p < n ∧ v &&& f p = v ∧ x ≤ 16 ∧ a = nI p ∧ y = nI v ∧ z = nI x) : fA_weight w 0 a y z = some (-2, w) := by
  obtain ⟨g, A, G, G', S⟩ := C
  have hn := G.1.2.1
  have b := z_G0 G
  unfold fA_weight
  rw [(z_A0 A).1, Option.bind_some]
  by_cases c : ∃ k, k < n ∧ a = nI k
  · obtain ⟨p, hp, rfl⟩ := c
    have hf64 : f p < 64 := z_h64 (show p ≤ 6 by omega) (G.1.2.2.1 p hp)
    rw [z_isPl A G hp, Option.bind_some, if_neg (by decide), (z_A0 A).2.1, Option.bind_some, b.2.1, Option.bind_some, b.2.2.2.2.2.2.1, Option.bind_some, b.2.2.2.2.2.2.2 p hp, Option.bind_some]
    rcases z_within (m := f p) hf64 y with ⟨s, q1, q2, rfl⟩ | q
    · rw [z_within1 q1 hf64 q2, if_neg (by decide)]
      by_cases c1 : z < 0
      · rw [if_pos c1]
      · rw [if_neg c1, if_neg]
        intro c2
        obtain ⟨x, x1, rfl⟩ := nI_of c1
        exact hx ⟨p, s, x, hp, q2, (nI_leI x1 (by omega)).mp (show nI x ≤ nI 16 from c2), rfl, rfl, rfl⟩
    · rw [q, if_pos rfl]
  · rw [z_isPl0 A G c, Option.bind_some, if_pos rfl]
def z_hd (h p : Nat) (b : Int32) : Nat := if b = 0 then h &&& (63 - 2 ^ p) else h ||| 2 ^ p
theorem z_hd_lt {h p n : Nat} {b : Int32} (hh : h < 2 ^ n) (hp : p < n) : z_hd h p b < 2 ^ n := by
  unfold z_hd
  split
  · exact Nat.lt_of_le_of_lt Nat.and_le_left hh
  · exact Nat.or_lt_two_pow hh (z_p2 hp)
theorem z_Chide (C : z_cs w n f t h n' f' t' h') {p : Nat} (hp : p < n) (b : Int32) : ∃ w', fA_hide w 0 (nI p) b = some (if h.testBit p = true then 1 else 0, w') ∧ z_cs w' n f t (z_hd h p b) n' f' t' h' ∧ ∀ j, 18 ≤ j → w'[j]? = w[j]? := by
  obtain ⟨g, A, G, G', S⟩ := C
  have hg := A.2
  have b0 := z_G0 G
  have hn := G.1.2.1
  have hpl := z_isPl A G hp
  have hh := z_h64 hn G.1.2.2.2.2
  have hp2 : 2 ^ p < 64 := z_h64 hn (z_p2 hp)
  obtain ⟨g0, g1, g2, F, U, g3, g4, g5, g6⟩ := G
  have e : ∀ j, j ≠ g → (w.set g (.inr (2, [.ref (g + 1), .ref (g + 3), .int (nI (z_hd h p b))])))[j]? = w[j]? := fun j hj => z_else (Ne.symm hj)
  refine ⟨w.set g (.inr (2, [.ref (g + 1), .ref (g + 3), .int (nI (z_hd h p b))])), ?_, ⟨g, ⟨by rw [e 0 (by omega)]; exact A.1, A.2⟩, ?_, z_gc_same G' (fun j q1 q2 => e j (by omega)), z_sc_same S (fun j q1 q2 => e j (by omega))⟩, fun j hj => e j (by omega)⟩
  · unfold fA_hide
    rw [(z_A0 A).1, Option.bind_some, hpl, Option.bind_some, if_neg (by decide), (z_A0 A).2.1, Option.bind_some, b0.2.2.2.1, Option.bind_some, z_bit p (by omega), z_not h hh _ hp2, z_or, z_has h hh p (by omega), z_asN]
    unfold z_hd
    by_cases c : b = 0
    · rw [if_pos c, if_pos c, z_pf g1 (by simp), Option.bind_some]
      rfl
    · rw [if_neg c, if_neg c, z_pf g1 (by simp), Option.bind_some]
      rfl
  · exact ⟨⟨g0.1, hn, g0.2.2.1, g0.2.2.2.1, z_hd_lt g0.2.2.2.2 hp⟩, z_self g1, by rw [e (g + 1) (by omega)]; exact g2, F, U, by rw [e (g + 2) (by omega)]; exact g3, by rw [e (g + 3) (by omega)]; exact g4, g5, g6⟩
theorem z_Chide0 (C : z_cs w n f t h n' f' t' h') {x : Int32} (b : Int32) (hx : ¬ ∃ k, k < n ∧ x = nI k) : fA_hide w 0 x b = some (-2, w) := by
  obtain ⟨g, A, G, G', S⟩ := C
  unfold fA_hide
  rw [(z_A0 A).1, Option.bind_some, z_isPl0 A G hx, Option.bind_some, if_pos rfl]
theorem z_Cswap (C : z_cs w n f t h n' f' t' h') : ∃ w', fA_swap w 0 = some (nI n', w') ∧ z_cs w' n' f' t' h' n f t h ∧ ∀ j, 18 ≤ j → w'[j]? = w[j]? := by
  obtain ⟨g, A, G, G', S⟩ := C
  have hg := A.2
  have e : ∀ j, j ≠ 0 → (w.set 0 (.inr (0, [.ref (6 - g), .ref g, .ref 9, .ref 11, .ref 16, .ref 17])))[j]? = w[j]? := fun j hj => z_else (Ne.symm hj)
  have s := z_self (c' := .inr (0, [.ref (6 - g), .ref (6 - g), .ref 9, .ref 11, .ref 16, .ref 17])) A.1
  have A' : z_A (w.set 0 (.inr (0, [.ref (6 - g), .ref g, .ref 9, .ref 11, .ref 16, .ref 17]))) (6 - g) := by
    refine ⟨?_, by omega⟩
    rw [show 6 - (6 - g) = g by omega]
    exact z_self A.1
  have H' : z_gc (w.set 0 (.inr (0, [.ref (6 - g), .ref g, .ref 9, .ref 11, .ref 16, .ref 17]))) (6 - g) n' f' t' h' := z_gc_same G' (fun j q1 q2 => e j (by omega))
  refine ⟨w.set 0 (.inr (0, [.ref (6 - g), .ref g, .ref 9, .ref 11, .ref 16, .ref 17])), ?_, ⟨6 - g, A', H', ?_, z_sc_same S (fun j q1 q2 => e j (by omega))⟩, fun j hj => e j (by omega)⟩
  · unfold fA_swap
    rw [(z_A0 A).2.1, Option.bind_some, (z_A0 A).2.2.1, Option.bind_some, z_pf A.1 (by simp), Option.bind_some]
    show (x_pf (w.set 0 (.inr (0, [.ref (6 - g), .ref (6 - g), .ref 9, .ref 11, .ref 16, .ref 17]))) 0 0 1 (.ref g)).bind _ = _
    rw [z_pf s (by simp), Option.bind_some, List.set_set, show [Value.ref (6 - g), .ref (6 - g), .ref 9, .ref 11, .ref 16, .ref 17].set 1 (Value.ref g) = [.ref (6 - g), .ref g, .ref 9, .ref 11, .ref 16, .ref 17] from rfl]
    rw [(z_A0 A').2.1, Option.bind_some, (z_G0 H').2.1, Option.bind_some, (z_G0 H').2.2.2.2.2.1, Option.bind_some]
  · rw [show 6 - (6 - g) = g by omega]
    exact z_gc_same G (fun j q1 q2 => e j (by omega))
theorem z_Ckeep (C : z_cs w n f t h n' f' t' h') : ∃ w', fA_keep w 0 = some (nI n, w') ∧ z_cs w' n f t h n f t h ∧ ∀ j, 18 ≤ j → w'[j]? = w[j]? := by
  obtain ⟨g, A, G, G', S⟩ := C
  have hg := A.2
  have hn := G.1.2.1
  have b := z_G0 G
  have b' := z_G0 G'
  have GG := G
  obtain ⟨g0, g1, g2, F, U, g3, g4, g5, g6⟩ := G
  obtain ⟨k0, k1, k2, F', U', k3, k4, k5, k6⟩ := G'
  have hf64 : ∀ p, p < n → f p < 64 := fun p hp => z_h64 (show p ≤ 6 by omega) (g0.2.2.1 p hp)
  obtain ⟨w1, C', r1, r2, r3, r4, e1⟩ := z_copyW (c := 0) k2 k3 g2 g3 hn hf64 g5 (by omega) (by omega) (by omega) (by omega) (by omega) (by omega)
  have q1 : w1[g + 3]? = some (.inl (192, U)) := by rw [e1 (g + 3) (by omega) (by omega)]; exact g4
  have q2 : w1[6 - g + 3]? = some (.inl (192, U')) := by rw [e1 (6 - g + 3) (by omega) (by omega)]; exact k4
  have q3 : w1[6 - g]? = some (.inr (2, [.ref (6 - g + 1), .ref (6 - g + 3), .int (nI h')])) := by rw [e1 (6 - g) (by omega) (by omega)]; exact k1
  have q4 : w1[g]? = some (.inr (2, [.ref (g + 1), .ref (g + 3), .int (nI h)])) := by rw [e1 g (by omega) (by omega)]; exact g1
  have e2 : ∀ j, j ≠ 6 - g + 3 → (w1.set (6 - g + 3) (.inl (192, va_cpy U U' 0 0 192)))[j]? = w1[j]? := fun j hj => z_else (Ne.symm hj)
  have cp : x_cp w1 (g + 3) 0 (6 - g + 3) 0 192 = some (w1.set (6 - g + 3) (.inl (192, va_cpy U U' 0 0 192))) := by
    unfold x_cp
    rw [q1, q2]
    rfl
  have q5 : (w1.set (6 - g + 3) (.inl (192, va_cpy U U' 0 0 192)))[6 - g]? = some (.inr (2, [.ref (6 - g + 1), .ref (6 - g + 3), .int (nI h')])) := by rw [e2 _ (by omega)]; exact q3
  have q6 : (w1.set (6 - g + 3) (.inl (192, va_cpy U U' 0 0 192)))[g]? = some (.inr (2, [.ref (g + 1), .ref (g + 3), .int (nI h)])) := by rw [e2 _ (by omega)]; exact q4
  have e3 : ∀ j, j ≠ 6 - g → ((w1.set (6 - g + 3) (.inl (192, va_cpy U U' 0 0 192))).set (6 - g) (.inr (2, [.ref (6 - g + 1), .ref (6 - g + 3), .int (nI h)])))[j]? = (w1.set (6 - g + 3) (.inl (192, va_cpy U U' 0 0 192)))[j]? := fun j hj => z_else (Ne.symm hj)
  have e : ∀ j, j ≠ 6 - g → j ≠ 6 - g + 1 → j ≠ 6 - g + 2 → j ≠ 6 - g + 3 → ((w1.set (6 - g + 3) (.inl (192, va_cpy U U' 0 0 192))).set (6 - g) (.inr (2, [.ref (6 - g + 1), .ref (6 - g + 3), .int (nI h)])))[j]? = w[j]? := fun j h0 h1 h2 h3 => by rw [e3 j h0, e2 j h3, e1 j h1 h2]
  have A' : z_A ((w1.set (6 - g + 3) (.inl (192, va_cpy U U' 0 0 192))).set (6 - g) (.inr (2, [.ref (6 - g + 1), .ref (6 - g + 3), .int (nI h)]))) g := ⟨by rw [e 0 (by omega) (by omega) (by omega) (by omega)]; exact A.1, A.2⟩
  have H : z_gc ((w1.set (6 - g + 3) (.inl (192, va_cpy U U' 0 0 192))).set (6 - g) (.inr (2, [.ref (6 - g + 1), .ref (6 - g + 3), .int (nI h)]))) g n f t h := z_gc_same GG (fun j q1 q2 => e j (by omega) (by omega) (by omega) (by omega))
  refine ⟨_, ?_, ⟨g, A', H, ?_, z_sc_same S (fun j q1 q2 => e j (by omega) (by omega) (by omega) (by omega))⟩, fun j hj => e j (by omega) (by omega) (by omega) (by omega)⟩
  · unfold fA_keep fG_copy
    rw [(z_A0 A).2.2.1, Option.bind_some, (z_A0 A).2.1, Option.bind_some, b'.1, Option.bind_some, b'.2.1, Option.bind_some, b.2.1, Option.bind_some, b'.2.2.2.2.1, Option.bind_some, show (0 : Int32) = nI 0 from rfl, r1, Option.bind_some, z_fr q4]
    show ((some (g + 3)).bind _).bind _ = _
    rw [Option.bind_some, z_fr q3]
    show ((some (6 - g + 3)).bind _).bind _ = _
    rw [Option.bind_some, show nI 0 = (0 : Int32) from rfl, cp, Option.bind_some, z_fi q6]
    show ((some (nI h)).bind _).bind _ = _
    rw [Option.bind_some, z_pf q5 (by simp), Option.bind_some, Option.bind_some, show [Value.ref (6 - g + 1), .ref (6 - g + 3), .int (nI h')].set 2 (Value.int (nI h)) = [.ref (6 - g + 1), .ref (6 - g + 3), .int (nI h)] from rfl]
    rw [(z_A0 A').2.1, Option.bind_some, (z_G0 H).2.1, Option.bind_some, (z_G0 H).2.2.2.2.2.1, Option.bind_some]
  · refine ⟨g0, z_self q5, ?_, C', va_cpy U U' 0 0 192, ?_, ?_, ?_, ?_⟩
    · rw [e3 _ (by omega), e2 _ (by omega)]; exact r2
    · rw [e3 _ (by omega), e2 _ (by omega)]; exact r3
    · rw [e3 _ (by omega)]; exact z_self q2
    · intro p hp
      rw [r4 p hp, show f p &&& (63 - 0) = f p from z_sub_mask (n := 6).mpr (hf64 p hp)]
    · intro p hp v hv hs
      unfold va_cpy
      rw [if_pos (by omega), Nat.zero_add, Nat.sub_zero]
      exact g6 p hp v hv hs
end
