/-! the reference's shapes -/
def z_ar (w : x_W) (r n : Nat) (u : Nat → Nat) : Prop := ∀ p, p < n → u p < 64 ∧ x_ai w r (nI p) = some (nI (u p))
def z_jn (u : Nat → Nat) (a b : Nat) : Bool := (u a).testBit b || (u b).testBit a
def z_mt (u : Nat → Nat) (a b c : Nat) : Bool := !z_jn u a b && !decide (a = b) && (u c).testBit a && (u c).testBit b
def z_shp (n : Nat) (u f : Nat → Nat) : Bool := z_alq (fun a => z_alq (fun b => z_jn u a b == z_jn f a b && z_alq (fun c => z_mt u a b c == z_mt f a b c) n 0) n 0) n 0
def z_b01 (b : Bool) : Int32 := if b then 1 else 0
theorem z_has01 {s p : Nat} (hs : s < 64) (hp : p < 6) : fM_has (nI s) (nI p) = z_b01 (s.testBit p) := z_hasM s hs p hp
theorem z_010 {b : Bool} : (z_b01 b = 0) ↔ b = false := by cases b <;> decide
section
variable {w : x_W} {n : Nat} {u f : Nat → Nat}
theorem z_meets {r a b c : Nat} (U : z_ar w r n u) (hn : n ≤ 6) (ha : a < n) (hb : b < n) (hc : c < n) : fM_meets w r 0 (nI a) (nI b) (nI c) = some (z_b01 (z_mt u a b c)) := by
  obtain ⟨a1, a2⟩ := U a ha
  obtain ⟨b1, b2⟩ := U b hb
  obtain ⟨c1, c2⟩ := U c hc
  unfold fM_meets
  rw [Int32.zero_add, Int32.zero_add, Int32.zero_add, a2, Option.bind_some, b2, c2, z_has01 a1 (by omega)]
  simp only [Option.bind_some]
  rw [z_has01 b1 (by omega), z_has01 c1 (by omega), z_has01 c1 (by omega)]
  simp only [z_010, nI_eq (show a < 2 ^ 31 by omega) (show b < 2 ^ 31 by omega)]
  unfold z_mt z_jn
  by_cases e : a = b
  · cases (u a).testBit b <;> cases (u b).testBit a <;> simp [e] <;> rfl
  · cases (u a).testBit b <;> cases (u b).testBit a <;> cases (u c).testBit a <;> cases (u c).testBit b <;> simp [e] <;> rfl
theorem z_Mshape (U : z_ar w 26 n u) (F : z_ar w 20 n f) (hn : n ≤ 6) (h9 : x_fr w 18 5 9 = some 26) (h1 : x_fr w 18 5 1 = some 20) : fM_hasShape w 18 (nI n) = some (z_b01 (z_shp n u f)) := by
  have inner : ∀ (k4 : Nat → Int32 → Int32 → Int32 → Option Int32) (k12 : Nat → Int32 → Int32 → Int32 → Int32 → Option Int32) (a b : Nat), a < n → b < n → ∀ k c fuel (o : Bool), c + k = n → k < fuel → fM_hasShape_100 w k4 k12 fuel 18 (nI n) (z_b01 o) (nI a) (nI b) (nI c) = k12 18 (nI n) (z_b01 (o && z_alq (fun c => z_mt u a b c == z_mt f a b c) k c)) (nI a) (nI (b + 1)) := by
    intro k4 k12 a b ha hb k
    induction k with
    | zero =>
      intro c fuel o hc hk
      obtain ⟨m, rfl⟩ := z_suc hk
      rw [fM_hasShape_100, if_pos (nI_le (show n ≤ c by omega) (by omega)), z_inc, z_alq, Bool.and_true]
    | succ k ih =>
      intro c fuel o hc hk
      obtain ⟨m, rfl⟩ := z_suc hk
      have hlt : c < n := by omega
      rw [fM_hasShape_100, if_neg (nI_ge hlt (by omega)), z_inc]
      cases o
      · rw [if_pos (by decide)]
        have := ih (c + 1) m false (by omega) (by omega)
        rw [Bool.false_and] at this ⊢
        exact this
      · rw [if_neg (by decide), h9, Option.bind_some, z_meets U hn ha hb hlt, Option.bind_some, h1, Option.bind_some, z_meets F hn ha hb hlt, Option.bind_some, z_alq, Bool.true_and]
        have t1 := ih (c + 1) m true (by omega) (by omega)
        have t0 := ih (c + 1) m false (by omega) (by omega)
        rw [Bool.true_and] at t1
        rw [Bool.false_and] at t0
        cases z_mt u a b c <;> cases z_mt f a b c
        · rw [if_pos rfl]; exact t1
        · rw [if_neg (by decide)]; exact t0
        · rw [if_neg (by decide)]; exact t0
        · rw [if_pos rfl]; exact t1
  have mid : ∀ (k4 : Nat → Int32 → Int32 → Int32 → Option Int32) (a : Nat), a < n → ∀ k b fuel (o : Bool), b + k = n → k < fuel → fM_hasShape_12 w k4 fuel 18 (nI n) (z_b01 o) (nI a) (nI b) = k4 18 (nI n) (z_b01 (o && z_alq (fun b => z_jn u a b == z_jn f a b && z_alq (fun c => z_mt u a b c == z_mt f a b c) n 0) k b)) (nI (a + 1)) := by
    intro k4 a ha k
    induction k with
    | zero =>
      intro b fuel o hb hk
      obtain ⟨m, rfl⟩ := z_suc hk
      rw [fM_hasShape_12, if_pos (nI_le (show n ≤ b by omega) (by omega)), z_inc, z_alq, Bool.and_true]
    | succ k ih =>
      intro b fuel o hb hk
      obtain ⟨m, rfl⟩ := z_suc hk
      have hlt : b < n := by omega
      have go : ∀ o' : Bool, fM_hasShape_100 w k4 (fM_hasShape_12 w k4 m) x_F 18 (nI n) (z_b01 o') (nI a) (nI b) (nI 0) = k4 18 (nI n) (z_b01 ((o' && z_alq (fun c => z_mt u a b c == z_mt f a b c) n 0) && z_alq (fun b => z_jn u a b == z_jn f a b && z_alq (fun c => z_mt u a b c == z_mt f a b c) n 0) k (b + 1))) (nI (a + 1)) := fun o' =>
        (inner k4 (fM_hasShape_12 w k4 m) a b ha hlt n 0 x_F o' (by omega) (by unfold x_F; omega)).trans (ih (b + 1) m _ (by omega) (by omega))
      have go0 := go false
      have go1 := go true
      rw [show z_b01 false = (0 : Int32) from rfl, show nI 0 = (0 : Int32) from rfl, Bool.false_and, Bool.false_and] at go0
      rw [show z_b01 true = (1 : Int32) from rfl, show nI 0 = (0 : Int32) from rfl, Bool.true_and] at go1
      rw [fM_hasShape_12, if_neg (nI_ge hlt (by omega))]
      cases o
      · rw [if_pos (by decide), go0, Bool.false_and]
      · obtain ⟨a1, a2⟩ := U a ha
        obtain ⟨b1, b2⟩ := U b hlt
        obtain ⟨c1, c2⟩ := F a ha
        obtain ⟨d1, d2⟩ := F b hlt
        rw [if_neg (by decide), h9, Option.bind_some, a2, Option.bind_some, z_has01 a1 (by omega), b2, h1]
        simp only [Option.bind_some, c2, d2]
        rw [z_has01 b1 (by omega), z_has01 c1 (by omega), z_has01 d1 (by omega), go0, go1, z_alq, Bool.true_and]
        simp only [z_010]
        unfold z_jn
        cases (u a).testBit b <;> cases (u b).testBit a <;> cases (f a).testBit b <;> cases (f b).testBit a <;> rfl
  have outer : ∀ k a fuel (o : Bool), a + k = n → k < fuel → fM_hasShape_4 w fuel 18 (nI n) (z_b01 o) (nI a) = some (z_b01 (o && z_alq (fun a => z_alq (fun b => z_jn u a b == z_jn f a b && z_alq (fun c => z_mt u a b c == z_mt f a b c) n 0) n 0) k a)) := by
    intro k
    induction k with
    | zero =>
      intro a fuel o ha hk
      obtain ⟨m, rfl⟩ := z_suc hk
      rw [fM_hasShape_4, if_pos (nI_le (show n ≤ a by omega) (by omega)), z_alq, Bool.and_true]
      cases o <;> rfl
    | succ k ih =>
      intro a fuel o ha hk
      obtain ⟨m, rfl⟩ := z_suc hk
      have hlt : a < n := by omega
      rw [fM_hasShape_4, if_neg (nI_ge hlt (by omega))]
      refine (mid (fM_hasShape_4 w m) a hlt n 0 x_F o (by omega) (by unfold x_F; omega)).trans ?_
      rw [ih (a + 1) m _ (by omega) (by omega), z_alq, Bool.and_assoc]
  unfold fM_hasShape
  have := outer n 0 x_F true (by omega) (by unfold x_F; omega)
  rw [Bool.true_and] at this
  exact this
theorem z_shp_iff : z_shp n u f = true ↔ ∀ a, a < n → ∀ b, b < n → z_jn u a b = z_jn f a b ∧ ∀ c, c < n → z_mt u a b c = z_mt f a b c := by
  unfold z_shp
  rw [z_alq_iff]
  constructor
  · intro hh a ha b hb
    have h1 := ((z_alq_iff _ _).mp (hh a (by omega) (by omega))) b (by omega) (by omega)
    rw [Bool.and_eq_true, beq_iff_eq] at h1
    exact ⟨h1.1, fun c hc => by
      have := ((z_alq_iff _ _).mp h1.2) c (by omega) (by omega)
      rw [beq_iff_eq] at this
      exact this⟩
  · intro hh a h0 ha
    rw [z_alq_iff]
    intro b h0 hb
    obtain ⟨q1, q2⟩ := hh a (by omega) b (by omega)
    rw [Bool.and_eq_true, beq_iff_eq]
    refine ⟨q1, (z_alq_iff _ _).mpr fun c h0 hc => ?_⟩
    rw [beq_iff_eq]
    exact q2 c (by omega)
/-- two graphs whose arrows all go to greater places have one shape only if they are the same -/
theorem z_shp_eq (hu : ∀ p, p < n → u p < 2 ^ p) (hf : ∀ p, p < n → f p < 2 ^ p) : z_shp n u f = z_eqf n u f := by
  rw [Bool.eq_iff_iff, z_shp_iff, z_eqf_iff]
  constructor
  · intro hh p hp
    apply z_ext (n := p) (hu p hp) (hf p hp)
    intro q hq
    have := (hh p hp q (by omega)).1
    unfold z_jn at this
    rw [z_hi (hu q (by omega)) (show q ≤ p by omega), z_hi (hf q (by omega)) (show q ≤ p by omega), Bool.or_false, Bool.or_false] at this
    exact this
  · intro hh a ha b hb
    have e : z_jn u a b = z_jn f a b := by unfold z_jn; rw [hh a ha, hh b hb]
    refine ⟨e, fun c hc => ?_⟩
    unfold z_mt
    rw [e, hh c hc]
end
