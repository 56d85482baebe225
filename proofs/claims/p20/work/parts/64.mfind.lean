/-! the reference's search of like graphs, whole -/
def z_pl1 (f : Nat → Nat) (b : Nat) : Nat → Nat → List (Nat × Nat)
  | 0, _ => []
  | k + 1, a => (if (f b).testBit a then [(a, b)] else []) ++ z_pl1 f b k (a + 1)
def z_pl (f : Nat → Nat) : Nat → Nat → List (Nat × Nat)
  | 0, _ => []
  | k + 1, b => z_pl1 f b b 0 ++ z_pl f k (b + 1)
def z_tri : Nat → Nat
  | 0 => 0
  | b + 1 => z_tri b + b
def z_pO (l : List (Nat × Nat)) (PA PB : Nat → Int32) : Prop := ∀ i, i < l.length → PA i = nI (z_pA l i) ∧ PB i = nI (z_pB l i)
theorem z_pl1_len {f : Nat → Nat} {b : Nat} : ∀ k a, (z_pl1 f b k a).length ≤ k
  | 0, a => by simp [z_pl1]
  | k + 1, a => by
    have := z_pl1_len (f := f) (b := b) k (a + 1)
    unfold z_pl1
    split <;> simp <;> omega
theorem z_pA_app {l l' : List (Nat × Nat)} {i : Nat} (h : i < l.length) : z_pA (l ++ l') i = z_pA l i ∧ z_pB (l ++ l') i = z_pB l i := by
  unfold z_pA z_pB
  rw [List.getElem?_append_left h]
  exact ⟨rfl, rfl⟩
theorem z_pA_at {l l' : List (Nat × Nat)} {a b : Nat} : z_pA (l ++ (a, b) :: l') l.length = a ∧ z_pB (l ++ (a, b) :: l') l.length = b := by
  unfold z_pA z_pB
  rw [List.getElem?_append_right (Nat.le_refl _), Nat.sub_self]
  exact ⟨rfl, rfl⟩
section
variable {n b : Nat} {f : Nat → Nat} {cI lm : Int32} {FR SU : Nat → Int32} {k7 : x_W → Nat → Int32 → Option x_W}
theorem z_f29 (hn : n ≤ 6) (hf : ∀ p, p < n → f p < 64) (hb : b < n) : ∀ k a fuel (w : x_W) (l : List (Nat × Nat)) PA PB, a + k = b → k < fuel → l.length + k ≤ 15 → z_q w n f cI (nI l.length) lm PA PB FR SU → z_pO l PA PB → ∃ w' PA' PB', fM_findLike_29 k7 fuel w 18 (nI b) (nI a) = k7 w' 18 (nI (b + 1)) ∧ z_q w' n f cI (nI (l ++ z_pl1 f b k a).length) lm PA' PB' FR SU ∧ z_pO (l ++ z_pl1 f b k a) PA' PB' ∧ z_kF w w' := by
  intro k
  induction k with
  | zero =>
    intro a fuel w l PA PB ha hfu hl Q O
    obtain ⟨g, rfl⟩ := z_suc hfu
    refine ⟨w, PA, PB, ?_, by rw [z_pl1, List.append_nil]; exact Q, by rw [z_pl1, List.append_nil]; exact O, fun _ _ _ => rfl⟩
    rw [fM_findLike_29, if_pos (nI_le (show b ≤ a by omega) (by omega)), z_inc]
  | succ k ih =>
    intro a fuel w l PA PB ha hfu hl Q O
    obtain ⟨g, rfl⟩ := z_suc hfu
    rw [fM_findLike_29, if_neg (nI_ge (show a < b by omega) (by omega)), z_q_1 Q, Option.bind_some, z_q_f Q hn hb, Option.bind_some, z_hasM _ (hf b hb) _ (show a < 6 by omega), z_pl1]
    by_cases c : (f b).testBit a = true
    · obtain ⟨w1, a1, a2, a3⟩ := z_q_w24 Q (show l.length < 15 by omega) (nI a)
      obtain ⟨w2, b1, b2, b3⟩ := z_q_w25 a2 (show l.length < 15 by omega) (nI b)
      obtain ⟨w3, c1, c2, c3⟩ := z_q_w8 b2 (nI l.length + 1)
      have eL : nI l.length + 1 = nI (l ++ [(a, b)]).length := by rw [z_inc]; simp
      rw [eL] at c2
      obtain ⟨w', PA', PB', d1, d2, d3, d4⟩ := ih (a + 1) g w3 (l ++ [(a, b)]) _ _ (by omega) (by omega) (by simp; omega) c2 (fun i hi => by
        rw [List.length_append] at hi
        by_cases ci : i = l.length
        · subst ci
          rw [z_upd_s, z_upd_s, z_pA_at.1, z_pA_at.2]
          exact ⟨rfl, rfl⟩
        · have hi' : i < l.length := by simp at hi; omega
          rw [z_upd_n ci, z_upd_n ci, (z_pA_app hi').1, (z_pA_app hi').2]
          exact O i hi')
      rw [if_pos c, if_pos c, if_neg (by decide), z_q_6 Q, Option.bind_some, z_q_8 Q, Option.bind_some, a1, Option.bind_some, z_q_7 a2, Option.bind_some, z_q_8 a2, Option.bind_some, b1, Option.bind_some, z_q_8 b2, Option.bind_some, c1, Option.bind_some, z_inc, ← List.append_assoc]
      exact ⟨w', PA', PB', d1, d2, d3, z_kF_t a3 (z_kF_t b3 (z_kF_t c3 d4))⟩
    · rw [if_neg c, if_neg c, if_pos rfl, z_inc, List.nil_append]
      exact ih (a + 1) g w l PA PB (by omega) (by omega) (by omega) Q O
theorem z_f7 (hn : n ≤ 6) (hf : ∀ p, p < n → f p < 64) : ∀ k b fuel (w : x_W) (l : List (Nat × Nat)) lm PA PB SU, b + k = n → k < fuel → l.length ≤ z_tri b → z_q w n f cI (nI l.length) lm PA PB FR SU → z_pO l PA PB → (∀ p, p < b → SU p = nI (f p)) → ∃ w' PA' PB' SU', fM_findLike_7 fuel w 18 (nI b) = fM_findLike_96 x_F w' 18 0 ∧ z_q w' n f cI (nI (l ++ z_pl f k b).length) 0 PA' PB' FR SU' ∧ z_pO (l ++ z_pl f k b) PA' PB' ∧ z_kF w w' ∧ (∀ p, p < n → SU' p = nI (f p)) ∧ (l ++ z_pl f k b).length ≤ 15 := by
  have tri : ∀ b, b < 6 → z_tri b + b ≤ 15 := by decide
  intro k
  induction k with
  | zero =>
    intro b fuel w l lm PA PB SU hb hfu hl Q O hS
    obtain ⟨g, rfl⟩ := z_suc hfu
    obtain ⟨w1, a1, a2, a3⟩ := z_q_w11 Q 0
    refine ⟨w1, PA, PB, SU, ?_, by rw [z_pl, List.append_nil]; exact a2, by rw [z_pl, List.append_nil]; exact O, a3, fun p hp => hS p (by omega), ?_⟩
    · rw [fM_findLike_7, z_q_ob Q, Option.bind_some, z_q_n Q, Option.bind_some, if_pos (nI_le (show n ≤ b by omega) (by omega)), a1, Option.bind_some]
    · rw [z_pl, List.append_nil]
      have t6 : ∀ b, b ≤ 6 → z_tri b ≤ 15 := by decide
      have := t6 b (by omega)
      omega
  | succ k ih =>
    intro b fuel w l lm PA PB SU hb hfu hl Q O hS
    obtain ⟨g, rfl⟩ := z_suc hfu
    have hbn : b < n := by omega
    obtain ⟨w1, a1, a2, a3⟩ := z_q_w27 Q (show b < 6 by omega) (nI (f b))
    have t := tri b (by omega)
    obtain ⟨w2, PA2, PB2, b1, b2, b3, b4⟩ := z_f29 (k7 := fM_findLike_7 g) hn hf hbn b 0 x_F w1 l PA PB (by omega) (by unfold x_F; omega) (by omega) a2 O
    rw [show nI 0 = (0 : Int32) from rfl] at b1
    have hlen : (l ++ z_pl1 f b b 0).length ≤ z_tri (b + 1) := by
      rw [List.length_append, z_tri]
      have := z_pl1_len (f := f) (b := b) b 0
      omega
    obtain ⟨w', PA', PB', SU', d1, d2, d3, d4, d5, d6⟩ := ih (b + 1) g w2 _ _ PA2 PB2 _ (by omega) (by omega) hlen b2 b3 (fun p hp => by
      by_cases cp : p = b
      · subst cp; exact z_upd_s
      · rw [z_upd_n cp, hS p (by omega)])
    rw [z_pl, ← List.append_assoc]
    refine ⟨w', PA', PB', SU', ?_, d2, d3, z_kF_t a3 (z_kF_t b4 d4), d5, d6⟩
    rw [fM_findLike_7, z_q_ob Q, Option.bind_some, z_q_n Q, Option.bind_some, if_neg (nI_ge hbn (by omega)), z_q_10 Q, Option.bind_some, z_q_1 Q, Option.bind_some, z_q_f Q hn hbn, Option.bind_some, a1, Option.bind_some, b1]
    exact d1
end
theorem z_pl1_mem {f : Nat → Nat} {b : Nat} {x : Nat × Nat} : ∀ k a, x ∈ z_pl1 f b k a ↔ a ≤ x.1 ∧ x.1 < a + k ∧ x.2 = b ∧ (f b).testBit x.1 = true
  | 0, a => by simp [z_pl1]; omega
  | k + 1, a => by
    rw [z_pl1, List.mem_append, z_pl1_mem k (a + 1)]
    by_cases c : (f b).testBit a = true
    · rw [if_pos c, List.mem_singleton]
      constructor
      · rintro (rfl | ⟨h1, h2, h3, h4⟩)
        · exact ⟨by simp, by simp, rfl, c⟩
        · exact ⟨by omega, by omega, h3, h4⟩
      · rintro ⟨h1, h2, h3, h4⟩
        by_cases e : x.1 = a
        · exact Or.inl (Prod.ext e h3)
        · exact Or.inr ⟨by omega, by omega, h3, h4⟩
    · rw [if_neg c]
      constructor
      · rintro (h | ⟨h1, h2, h3, h4⟩)
        · cases h
        · exact ⟨by omega, by omega, h3, h4⟩
      · rintro ⟨h1, h2, h3, h4⟩
        have e : x.1 ≠ a := by intro e; rw [e] at h4; exact c h4
        exact Or.inr ⟨by omega, by omega, h3, h4⟩
theorem z_pl_mem {f : Nat → Nat} {x : Nat × Nat} : ∀ k b, x ∈ z_pl f k b ↔ b ≤ x.2 ∧ x.2 < b + k ∧ x.1 < x.2 ∧ (f x.2).testBit x.1 = true
  | 0, b => by simp [z_pl]; omega
  | k + 1, b => by
    rw [z_pl, List.mem_append, z_pl1_mem, z_pl_mem k (b + 1)]
    constructor
    · rintro (⟨h1, h2, h3, h4⟩ | ⟨h1, h2, h3, h4⟩)
      · rw [h3]; exact ⟨by omega, by omega, by omega, h4⟩
      · exact ⟨by omega, by omega, h3, h4⟩
    · rintro ⟨h1, h2, h3, h4⟩
      by_cases e : x.2 = b
      · exact Or.inl ⟨by omega, by omega, e, by rw [← e]; exact h4⟩
      · exact Or.inr ⟨by omega, by omega, h3, h4⟩
theorem z_pA_mem {l : List (Nat × Nat)} {i : Nat} (h : i < l.length) : (z_pA l i, z_pB l i) ∈ l := by
  unfold z_pA z_pB
  rw [List.getElem?_eq_getElem h]
  exact List.getElem_mem h
/-- how many graphs are like this one, and what all of them have: the reference's way -/
def z_ps (f : Nat → Nat) (n : Nat) : List (Nat × Nat) := z_pl f n 0
def z_U (f : Nat → Nat) (n m : Nat) : Nat → Nat := z_fo (z_pA (z_ps f n)) (z_pB (z_ps f n)) m (z_ps f n).length
def z_G (f : Nat → Nat) (n m : Nat) : Bool := z_gd (z_pA (z_ps f n)) (z_pB (z_ps f n)) f (z_ps f n).length n m
def z_cnt (f : Nat → Nat) (n : Nat) : Nat := z_ctb (z_G f n) (2 ^ (z_ps f n).length)
def z_su (f : Nat → Nat) (n p : Nat) : Nat := z_an (z_G f n) (z_U f n) f (2 ^ (z_ps f n).length) p
section
variable {w : x_W} {n n' h h' : Nat} {f f' : Nat → Nat} {t t' : Nat → Nat → Nat}
theorem z_Mfind (M : z_ms w n f t h n' f' t' h') : ∃ w' cI pr PA PB FR SU, fM_findLike w 18 = some w' ∧ z_km w w' ∧ z_q w' n f cI pr (nI (z_cnt f n)) PA PB FR SU ∧ (∀ p, p < n → SU p = nI (z_su f n p)) := by
  have M' := M
  obtain ⟨ok, -, ⟨⟨cI, pr, lm, m18⟩, m23, ⟨PA, m24⟩, ⟨PB, m25⟩, ⟨FR, m26⟩, ⟨SU, m27⟩⟩, ⟨⟨N, n1, n2, -⟩, ⟨P, p1, p2, -⟩, -⟩⟩ := M'
  have hn : n ≤ 6 := ok.2.1
  have hf : ∀ p, p < n → f p < 64 := fun p hp => Nat.lt_of_lt_of_le (ok.2.2.1 p hp) (z_pow (by omega))
  have Q : z_q w n f cI pr lm PA PB FR SU := ⟨m18, ⟨N, n1, n2⟩, ⟨P, p1, p2⟩, m24, m25, m26, m27⟩
  obtain ⟨w1, a1, a2, a3⟩ := z_q_w8 Q 0
  obtain ⟨w2, PA2, PB2, SU2, b1, b2, b3, b4, b5, b6⟩ := z_f7 (cI := cI) (FR := FR) hn hf n 0 x_F w1 [] lm PA PB SU (by omega) (by unfold x_F; omega) (by simp) a2 (fun i hi => absurd hi (by simp)) (fun p hp => absurd hp (by omega))
  rw [List.nil_append] at b2 b3 b6
  rw [show z_pl f n 0 = z_ps f n from rfl] at b2 b3 b6
  have hA : ∀ i, i < (z_ps f n).length → z_pA (z_ps f n) i < 6 ∧ z_pB (z_ps f n) i < 6 := by
    intro i hi
    have q : (z_pA (z_ps f n) i, z_pB (z_ps f n) i) ∈ z_pl f n 0 := z_pA_mem hi
    obtain ⟨q1, q2, q3, q4⟩ := (z_pl_mem n 0).mp q
    exact ⟨by omega, by omega⟩
  have h2 : 2 ^ (z_ps f n).length ≤ 2 ^ 15 := Nat.pow_le_pow_right (by omega) b6
  obtain ⟨w3, FR3, SU3, c1, c2, c3, c4⟩ := z_f96 (A := z_pA (z_ps f n)) (B := z_pB (z_ps f n)) hn hf b6 hA b3 (2 ^ (z_ps f n).length) 0 x_F w2 FR SU2 (by omega) (by unfold x_F; omega) b2 (fun p hp => b5 p hp)
  rw [show nI 0 = (0 : Int32) from rfl] at b1 c1
  have K := z_kF_t a3 (z_kF_t b4 c3)
  refine ⟨w3, cI, nI (z_ps f n).length, PA2, PB2, FR3, SU3, ?_, ?_, c2, c4⟩
  · unfold fM_findLike
    rw [a1, Option.bind_some, b1, c1]
  · obtain ⟨q1, q2, q3, q4, q5, q6, q7⟩ := c2
    refine ⟨⟨⟨_, _, _, q1⟩, by rw [K 23 (by omega) (by omega)]; exact m23, ⟨_, q4⟩, ⟨_, q5⟩, ⟨_, q6⟩, ⟨_, q7⟩⟩, fun k hk => K k (by omega) (by omega), fun k k1 k2 => K k (by omega) (by omega)⟩
theorem z_su_le {f : Nat → Nat} {n p : Nat} : z_su f n p ≤ f p := by
  have : ∀ (G : Nat → Bool) (U : Nat → Nat → Nat) M, z_an G U f M p ≤ f p := by
    intro G U M
    induction M with
    | zero => exact Nat.le_refl _
    | succ M ih =>
      unfold z_an
      split
      · exact Nat.le_trans Nat.and_le_left ih
      · exact ih
  exact this _ _ _
end
