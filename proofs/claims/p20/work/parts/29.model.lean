/-! the reference as numbers: its arrows, what they lead to -/
def z_mw (w : x_W) (c n : Nat) (f : Nat → Nat) : Prop := 1 ≤ n ∧ n ≤ 6 ∧ (∀ p, p < n → f p < 2 ^ p) ∧ c < 64 ∧ (∃ pr lm, w[18]? = some (.inr (5, [.ref 19, .ref 20, .ref 21, .ref 22, .int (nI c), .ref 23, .ref 24, .ref 25, .int pr, .ref 26, .ref 27, .int lm]))) ∧ (∃ N, w[19]? = some (.inl (2, N)) ∧ N 0 = nI n) ∧ ∃ P, w[20]? = some (.inl (12, P)) ∧ ∀ p, p < n → P p = nI (f p)
theorem z_mw_same {w w' : x_W} {c n : Nat} {f : Nat → Nat} (H : z_mw w c n f) (h1 : w'[18]? = w[18]?) (h2 : w'[19]? = w[19]?) (h3 : w'[20]? = w[20]?) : z_mw w' c n f := by
  obtain ⟨a1, a2, a3, a4, ⟨pr, lm, a5⟩, ⟨N, a6, a7⟩, P, a8, a9⟩ := H
  exact ⟨a1, a2, a3, a4, ⟨pr, lm, by rw [h1]; exact a5⟩, ⟨N, by rw [h2]; exact a6, a7⟩, P, by rw [h3]; exact a8, a9⟩
section
variable {w : x_W} {c n : Nat} {f : Nat → Nat}
theorem z_M0 (H : z_mw w c n f) : x_ob w 18 5 = some () ∧ fM_n w 18 = some (nI n) ∧ x_fi w 18 5 4 = some (nI c) ∧ x_fr w 18 5 0 = some 19 ∧ x_fr w 18 5 1 = some 20 ∧ x_fr w 18 5 2 = some 21 ∧ x_fr w 18 5 3 = some 22 ∧ x_fr w 18 5 5 = some 23 ∧ ∀ p, p < n → x_ai w 20 (nI p) = some (nI (f p)) := by
  obtain ⟨a1, a2, a3, a4, ⟨pr, lm, a5⟩, ⟨N, a6, a7⟩, P, a8, a9⟩ := H
  have h0 : x_fr w 18 5 0 = some 19 := by rw [z_fr a5]; rfl
  refine ⟨z_ob a5, ?_, by rw [z_fi a5]; rfl, h0, by rw [z_fr a5]; rfl, by rw [z_fr a5]; rfl, by rw [z_fr a5]; rfl, by rw [z_fr a5]; rfl, fun p hp => by rw [z_ai a8 (by omega) (by omega), a9 p hp]⟩
  unfold fM_n
  rw [h0, Option.bind_some, show (0 : Int32) = nI 0 from rfl, z_ai a6 (by omega) (by omega), a7, Option.bind_some]
theorem z_ct_bit {a b : Nat} (hc : c < 64) (ha : a < 6) : (z_ct f c b).testBit a = ((f b).testBit a && !c.testBit a) := by
  unfold z_ct
  rw [Nat.testBit_and, z_cpl c hc a ha]
theorem z_ct_lt (H : z_mw w c n f) : ∀ p, p < n → z_ct f c p < 2 ^ p := fun p hp => Nat.lt_of_le_of_lt Nat.and_le_left (H.2.2.1 p hp)
theorem z_arrow (H : z_mw w c n f) {a b : Nat} (ha : a < n) (hb : b < n) : fM_isArrow w 18 (nI a) (nI b) = some (if (z_ct f c b).testBit a then 1 else 0) := by
  obtain ⟨-, -, m2, -, m4, -, -, -, m8⟩ := z_M0 H
  have hn := H.2.1
  have hc := H.2.2.2.1
  unfold fM_isArrow
  rw [m4, Option.bind_some, m8 b hb, Option.bind_some, z_hasM _ (z_f64 hn H.2.2.1 hb) _ (by omega), m2, Option.bind_some, z_hasM _ hc _ (by omega), z_ct_bit hc (by omega)]
  by_cases h1 : (f b).testBit a <;> by_cases h2 : c.testBit a <;> simp [h1, h2]
theorem z_joined (H : z_mw w c n f) {a b : Nat} (ha : a < n) (hb : b < n) : fM_isJoined w 18 (nI a) (nI b) = some (if (z_ct f c a).testBit b || (z_ct f c b).testBit a then 1 else 0) := by
  obtain ⟨m0, -⟩ := z_M0 H
  unfold fM_isJoined
  rw [m0, Option.bind_some, z_arrow H ha hb, Option.bind_some, z_arrow H hb ha, Option.bind_some]
  by_cases h1 : (z_ct f c b).testBit a <;> by_cases h2 : (z_ct f c a).testBit b <;> simp [h1, h2]
def z_ch (F : Nat → Nat) (n p : Nat) : Nat := z_mk (fun j => (F j).testBit p) n
theorem z_Mch (H : z_mw w c n f) {p : Nat} (hp : p < n) : fM_children w 18 (nI p) = some (nI (z_ch (z_ct f c) n p)) := by
  obtain ⟨m0, m1, -⟩ := z_M0 H
  have hn := H.2.1
  have loop : ∀ k q fuel, q + k = n → k < fuel → fM_children_4 w fuel 18 (nI p) (nI (z_mk (fun j => (z_ct f c j).testBit p) q)) (nI q) = some (nI (z_ch (z_ct f c) n p)) := by
    intro k
    induction k with
    | zero =>
      intro q fuel hq hk
      obtain ⟨m, rfl⟩ := z_suc hk
      rw [fM_children_4, m0, Option.bind_some, m1, Option.bind_some, if_pos (nI_le (by omega) (by omega))]
      rw [show q = n by omega]
      rfl
    | succ k ih =>
      intro q fuel hq hk
      obtain ⟨m, rfl⟩ := z_suc hk
      have hlt : q < n := by omega
      rw [fM_children_4, m0, Option.bind_some, m1, Option.bind_some, if_neg (nI_ge hlt (by omega)), z_arrow H hp hlt, Option.bind_some, z_bit q (by omega), z_or, z_inc]
      have := ih (q + 1) m (by omega) (by omega)
      rw [z_mk] at this
      by_cases hb : (z_ct f c q).testBit p
      · rw [if_pos hb] at this
        rw [if_pos hb, if_neg (by decide)]
        exact this
      · rw [if_neg hb, Nat.or_zero] at this
        rw [if_neg hb, if_pos rfl]
        exact this
  unfold fM_children
  rw [show (0 : Int32) = nI 0 from rfl]
  exact loop n 0 x_F (by omega) (by unfold x_F; omega)
def z_un (F : Nat → Nat) (n thr b : Nat) : Nat → Nat
  | 0 => 0
  | k + 1 => z_un F n thr b k ||| (if b.testBit k && thr.testBit k then z_ch F n k else 0)
theorem z_un_bit {F : Nat → Nat} {thr b : Nat} : ∀ k q, (z_un F n thr b k).testBit q = true ↔ ∃ j, j < k ∧ b.testBit j = true ∧ thr.testBit j = true ∧ (z_ch F n j).testBit q = true
  | 0, q => by simp [z_un]
  | k + 1, q => by
    rw [z_un, Nat.testBit_or, Bool.or_eq_true, z_un_bit k q]
    constructor
    · rintro (⟨j, h1, h2⟩ | h)
      · exact ⟨j, by omega, h2⟩
      · by_cases e : b.testBit k && thr.testBit k
        · rw [if_pos e] at h
          rw [Bool.and_eq_true] at e
          exact ⟨k, by omega, e.1, e.2, h⟩
        · rw [if_neg e] at h
          simp at h
    · rintro ⟨j, h1, h2, h3, h4⟩
      by_cases e : j = k
      · subst e
        right
        rw [if_pos (by simp [h2, h3])]
        exact h4
      · exact Or.inl ⟨j, by omega, h2, h3, h4⟩
theorem z_ch64 {F : Nat → Nat} {p : Nat} (hn : n ≤ 6) : z_ch F n p < 64 := z_mk64 hn
theorem z_un64 {F : Nat → Nat} {thr b : Nat} (hn : n ≤ 6) : ∀ k, z_un F n thr b k < 64
  | 0 => by simp [z_un]
  | k + 1 => by
    rw [z_un]
    refine Nat.or_lt_two_pow (n := 6) (z_un64 hn k) ?_
    split
    · exact z_ch64 hn
    · omega
theorem z_rcS {F : Nat → Nat} {thr p : Nat} {q k : Nat} (hk : k < q) (hq : q ≤ n) : (z_rc F thr p q).testBit k = (z_rc F thr p n).testBit k := by
  rw [z_rc_bit, z_rc_bit]
  simp [hk, show k < n by omega]
theorem z_rc_iff {F : Nat → Nat} {thr p : Nat} (hF : ∀ q, q < n → F q < 2 ^ q) {q : Nat} (hq : q < n) : (z_rc F thr p n).testBit q = true ↔ ∃ j, (F q).testBit j = true ∧ (j = p ∨ (thr.testBit j = true ∧ (z_rc F thr p n).testBit j = true)) := by
  rw [z_rc_bit]
  simp only [hq, decide_true, Bool.true_and, Bool.not_eq_true', decide_eq_false_iff_not]
  constructor
  · intro h
    obtain ⟨j, hj⟩ := Nat.exists_testBit_of_ne_zero h
    rw [Nat.testBit_and, Nat.testBit_or, Nat.testBit_and, Nat.testBit_two_pow] at hj
    simp only [Bool.and_eq_true, Bool.or_eq_true, decide_eq_true_eq] at hj
    refine ⟨j, hj.1, ?_⟩
    rcases hj.2 with h2 | h2
    · right
      have hjq : j < q := by
        rcases Nat.lt_or_ge j q with z | z
        · exact z
        · rw [z_hi (z_rc_lt thr p q) z] at h2
          cases h2.1
      exact ⟨h2.2, by rw [← z_rcS hjq (by omega)]; exact h2.1⟩
    · exact Or.inl h2.symm
  · rintro ⟨j, h1, h2⟩ h0
    have hjq : j < q := by
      rcases Nat.lt_or_ge j q with z | z
      · exact z
      · rw [z_hi (hF q hq) z] at h1
        cases h1
    have : (F q &&& ((z_rc F thr p q &&& thr) ||| 2 ^ p)).testBit j = true := by
      rw [Nat.testBit_and, Nat.testBit_or, Nat.testBit_and, Nat.testBit_two_pow, h1]
      rcases h2 with h2 | ⟨h2, h3⟩
      · simp [h2]
      · rw [z_rcS (n := n) hjq (by omega), h2, h3]; rfl
    rw [h0, Nat.zero_testBit] at this
    cases this
theorem z_le_or {a b : Nat} : a ≤ a ||| b := Nat.left_le_or
theorem z_Mreach (H : z_mw w c n f) {p thr : Nat} (hp : p < n) (ht : thr < 64) : fM_reach w 18 (nI p) (nI thr) = some (nI (z_rc (z_ct f c) thr p n)) := by
  obtain ⟨m0, m1, -⟩ := z_M0 H
  have hn := H.2.1
  have hF := z_ct_lt H
  -- one round
  have inner : ∀ (k9 : Nat → Int32 → Int32 → Int32 → Option Int32) (G b : Nat), b < 64 → ∀ k q fuel, q + k = n → k < fuel → fM_reach_21 w k9 fuel 18 (nI thr) (nI (G ||| z_un (z_ct f c) n thr b q)) (nI b) (nI q) = k9 18 (nI thr) (nI (G ||| z_un (z_ct f c) n thr b n)) (nI b) := by
    intro k9 G b hb k
    induction k with
    | zero =>
      intro q fuel hq hk
      obtain ⟨m, rfl⟩ := z_suc hk
      rw [fM_reach_21, m0, Option.bind_some, m1, Option.bind_some, if_pos (nI_le (by omega) (by omega))]
      rw [show q = n by omega]
    | succ k ih =>
      intro q fuel hq hk
      obtain ⟨m, rfl⟩ := z_suc hk
      have hlt : q < n := by omega
      have next := ih (q + 1) m (by omega) (by omega)
      rw [z_un, ← Nat.or_assoc] at next
      rw [fM_reach_21, m0, Option.bind_some, m1, Option.bind_some, if_neg (nI_ge hlt (by omega)), z_hasM _ hb _ (by omega), z_hasM _ ht _ (by omega), z_Mch H hlt, Option.bind_some, z_or, z_inc]
      by_cases h1 : b.testBit q
      · rw [if_pos h1, if_neg (by decide)]
        by_cases h2 : thr.testBit q
        · rw [if_pos h2, if_neg (by decide)]
          rw [if_pos (by simp [h1, h2])] at next
          exact next
        · rw [if_neg h2, if_pos rfl]
          rw [if_neg (by simp [h2]), Nat.or_zero] at next
          exact next
      · rw [if_neg h1, if_pos rfl]
        rw [if_neg (by simp [h1]), Nat.or_zero] at next
        exact next
  -- the rounds
  have outer : ∀ k G b fuel, 64 ≤ G + k → k < fuel → G < 64 → b < 64 → (∀ q, b.testBit q = true → G.testBit q = true) → (∀ q, (z_ch (z_ct f c) n p).testBit q = true → G.testBit q = true) → (∀ q, (z_un (z_ct f c) n thr b n).testBit q = true → G.testBit q = true) → (∀ q, G.testBit q = true → (z_rc (z_ct f c) thr p n).testBit q = true) → fM_reach_9 w fuel 18 (nI thr) (nI G) (nI b) = some (nI (z_rc (z_ct f c) thr p n)) := by
    intro k
    induction k with
    | zero => intro G b fuel h1 h2 h3; omega
    | succ k ih =>
      intro G b fuel hG hk h64 hb64 hbG hch hun hX
      obtain ⟨m, rfl⟩ := z_suc hk
      rw [fM_reach_9]
      by_cases e : G = b
      · rw [if_pos (by rw [e])]
        have hr : z_rc (z_ct f c) thr p n < 2 ^ n := z_rc_lt thr p n
        have : G = z_rc (z_ct f c) thr p n := by
          have sub : ∀ q, q < n → (z_rc (z_ct f c) thr p n).testBit q = true → G.testBit q = true := by
            intro q
            induction q using Nat.strongRecOn with
            | _ q ihq =>
              intro hq hz
              obtain ⟨j, j1, j2⟩ := (z_rc_iff hF hq).mp hz
              have hjq : j < q := by
                rcases Nat.lt_or_ge j q with z | z
                · exact z
                · rw [z_hi (hF q hq) z] at j1; cases j1
              rcases j2 with rfl | ⟨j2, j3⟩
              · apply hch
                unfold z_ch
                rw [z_mk_bit]
                simp [hq, j1]
              · apply hun
                rw [z_un_bit]
                refine ⟨j, by omega, by rw [← e]; exact ihq j hjq (by omega) j3, j2, ?_⟩
                unfold z_ch
                rw [z_mk_bit]
                simp [hq, j1]
          apply Nat.eq_of_testBit_eq
          intro q
          by_cases hq : q < n
          · cases g1 : G.testBit q
            · cases g2 : (z_rc (z_ct f c) thr p n).testBit q
              · rfl
              · rw [sub q hq g2] at g1; cases g1
            · rw [hX q g1]
          · rw [z_hi hr (by omega)]
            cases g1 : G.testBit q
            · rfl
            · have := hX q g1
              rw [z_hi hr (by omega)] at this
              cases this
        rw [this]
      · rw [if_neg (fun z => e ((nI_eq (by omega) (by omega)).mp z))]
        have r := inner (fM_reach_9 w m) G G h64 n 0 x_F (by omega) (by unfold x_F; omega)
        rw [z_un, Nat.or_zero] at r
        rw [show (0 : Int32) = nI 0 from rfl, r]
        have hle : G ≤ G ||| z_un (z_ct f c) n thr G n := z_le_or
        have h64' : G ||| z_un (z_ct f c) n thr G n < 64 := Nat.or_lt_two_pow (n := 6) h64 (z_un64 hn n)
        by_cases e2 : G ||| z_un (z_ct f c) n thr G n = G
        · -- the next turn ends: use it with b := G
          rw [e2]
          obtain ⟨m', rfl⟩ : ∃ m', m = m' + 1 := ⟨m - 1, by omega⟩
          have hun' : ∀ q, (z_un (z_ct f c) n thr G n).testBit q = true → G.testBit q = true := fun q hq => by
            rw [← e2, Nat.testBit_or, hq]; simp
          have sub : ∀ q, q < n → (z_rc (z_ct f c) thr p n).testBit q = true → G.testBit q = true := by
            intro q
            induction q using Nat.strongRecOn with
            | _ q ihq =>
              intro hq hz
              obtain ⟨j, j1, j2⟩ := (z_rc_iff hF hq).mp hz
              have hjq : j < q := by
                rcases Nat.lt_or_ge j q with z | z
                · exact z
                · rw [z_hi (hF q hq) z] at j1; cases j1
              rcases j2 with rfl | ⟨j2, j3⟩
              · apply hch
                unfold z_ch
                rw [z_mk_bit]
                simp [hq, j1]
              · apply hun'
                rw [z_un_bit]
                refine ⟨j, by omega, ihq j hjq (by omega) j3, j2, ?_⟩
                unfold z_ch
                rw [z_mk_bit]
                simp [hq, j1]
          rw [fM_reach_9, if_pos rfl]
          have hr : z_rc (z_ct f c) thr p n < 2 ^ n := z_rc_lt thr p n
          have : G = z_rc (z_ct f c) thr p n := by
            apply Nat.eq_of_testBit_eq
            intro q
            by_cases hq : q < n
            · cases g1 : G.testBit q
              · cases g2 : (z_rc (z_ct f c) thr p n).testBit q
                · rfl
                · rw [sub q hq g2] at g1; cases g1
              · rw [hX q g1]
            · rw [z_hi hr (by omega)]
              cases g1 : G.testBit q
              · rfl
              · have := hX q g1
                rw [z_hi hr (by omega)] at this
                cases this
          rw [this]
        · refine ih _ G m (by omega) (by omega) h64' h64 (fun q hq => by rw [Nat.testBit_or, hq]; rfl) (fun q hq => by rw [Nat.testBit_or, hch q hq]; rfl) (fun q hq => by rw [Nat.testBit_or, hq]; simp) (fun q hq => ?_)
          rw [Nat.testBit_or, Bool.or_eq_true] at hq
          rcases hq with hq | hq
          · exact hX q hq
          · obtain ⟨j, j1, j2, j3, j4⟩ := (z_un_bit n q).mp hq
            unfold z_ch at j4
            rw [z_mk_bit] at j4
            simp only [Bool.and_eq_true, decide_eq_true_eq] at j4
            exact (z_rc_iff hF j4.1).mpr ⟨j, j4.2, Or.inr ⟨j3, hX j j2⟩⟩
  unfold fM_reach
  rw [m0, Option.bind_some, z_Mch H hp, Option.bind_some, show (0 : Int32) = nI 0 from rfl]
  refine outer 65 (z_ch (z_ct f c) n p) 0 x_F (by omega) (by unfold x_F; omega) (z_ch64 hn) (by omega) (fun q hq => by simp at hq) (fun q hq => hq) (fun q hq => ?_) (fun q hq => ?_)
  · obtain ⟨j, -, j2, -⟩ := (z_un_bit n q).mp hq
    simp at j2
  · unfold z_ch at hq
    rw [z_mk_bit] at hq
    simp only [Bool.and_eq_true, decide_eq_true_eq] at hq
    exact (z_rc_iff hF hq.1).mpr ⟨p, hq.2, Or.inl rfl⟩
end
