/-! clumps: the class's rounds are the reference's loop -/
def z_bnd (f : Nat → Nat) (n h p q : Nat) : Nat → Bool
  | 0 => false
  | k + 1 => z_bnd f n h p q k || (h.testBit k && (z_rc f h k n).testBit p && (z_rc f h k n).testBit q)
def z_st (f : Nat → Nat) (n h G : Nat) : Nat := G ||| z_bd f n h G n
theorem z_and_ne {a b : Nat} : ¬ a &&& b = 0 ↔ ∃ p, a.testBit p = true ∧ b.testBit p = true := by
  constructor
  · intro hne
    apply Classical.byContradiction
    intro hno
    apply hne
    apply Nat.eq_of_testBit_eq
    intro i
    rw [Nat.testBit_and, Nat.zero_testBit]
    cases c1 : a.testBit i
    · rfl
    · cases c2 : b.testBit i
      · rfl
      · exact absurd ⟨i, c1, c2⟩ hno
  · rintro ⟨p, h1, h2⟩ e
    have : (a &&& b).testBit p = (0 : Nat).testBit p := by rw [e]
    rw [Nat.testBit_and, h1, h2, Nat.zero_testBit] at this
    cases this
section
variable {f : Nat → Nat} {n h : Nat}
theorem z_bnd_iff {p q : Nat} : ∀ k, z_bnd f n h p q k = true ↔ ∃ j, j < k ∧ h.testBit j = true ∧ (z_rc f h j n).testBit p = true ∧ (z_rc f h j n).testBit q = true
  | 0 => by
    constructor
    · intro e; cases e
    · rintro ⟨j, hj, -⟩; omega
  | k + 1 => by
    rw [z_bnd, Bool.or_eq_true, z_bnd_iff k, Bool.and_eq_true, Bool.and_eq_true]
    constructor
    · rintro (⟨j, hj, r⟩ | ⟨⟨r1, r2⟩, r3⟩)
      · exact ⟨j, by omega, r⟩
      · exact ⟨k, by omega, r1, r2, r3⟩
    · rintro ⟨j, hj, r1, r2, r3⟩
      by_cases c : j = k
      · subst c; exact Or.inr ⟨⟨r1, r2⟩, r3⟩
      · exact Or.inl ⟨j, by omega, r1, r2, r3⟩
theorem z_bd_bit {G q : Nat} : ∀ k, (z_bd f n h G k).testBit q = true ↔ ∃ j, j < k ∧ h.testBit j = true ∧ ¬ z_sn f n h j &&& G = 0 ∧ (z_sn f n h j).testBit q = true
  | 0 => by
    rw [z_bd, Nat.zero_testBit]
    constructor
    · intro e; cases e
    · rintro ⟨j, hj, -⟩; omega
  | k + 1 => by
    rw [z_bd, Nat.testBit_or, Bool.or_eq_true, z_bd_bit k]
    constructor
    · rintro (⟨j, hj, r⟩ | r)
      · exact ⟨j, by omega, r⟩
      · by_cases c1 : h.testBit k = true
        · rw [if_pos c1] at r
          by_cases c2 : z_sn f n h k &&& G = 0
          · rw [if_pos c2, Nat.zero_testBit] at r; cases r
          · rw [if_neg c2] at r; exact ⟨k, by omega, c1, c2, r⟩
        · rw [if_neg c1, Nat.zero_testBit] at r; cases r
    · rintro ⟨j, hj, r1, r2, r3⟩
      by_cases c : j = k
      · subst c; right; rw [if_pos r1, if_neg r2]; exact r3
      · exact Or.inl ⟨j, by omega, r1, r2, r3⟩
theorem z_sn_bit {j q : Nat} (hh : h < 64) (hq : q < 6) : (z_sn f n h j).testBit q = ((z_rc f h j n).testBit q && !h.testBit q) := by
  unfold z_sn
  rw [Nat.testBit_and, z_cpl h hh q hq]
theorem z_sn_lt {j : Nat} : z_sn f n h j < 2 ^ n := Nat.lt_of_le_of_lt Nat.and_le_left (z_rc_lt h j n)
theorem z_bd_lt {G : Nat} : ∀ k, z_bd f n h G k < 2 ^ n
  | 0 => Nat.two_pow_pos n
  | k + 1 => by
    rw [z_bd]
    refine Nat.or_lt_two_pow (z_bd_lt k) ?_
    split
    · split
      · exact Nat.two_pow_pos n
      · exact z_sn_lt
    · exact Nat.two_pow_pos n
theorem z_st_lt {G : Nat} (hG : G < 2 ^ n) : z_st f n h G < 2 ^ n := Nat.or_lt_two_pow hG (z_bd_lt n)
/-- a step, by bits, for a set of seen places -/
theorem z_st_bit {G q : Nat} (hn : n ≤ 6) (hh : h < 64) (hG : G < 2 ^ n) (hs : ∀ p, G.testBit p = true → h.testBit p = false) (hq : q < n) : (z_st f n h G).testBit q = true ↔ G.testBit q = true ∨ (h.testBit q = false ∧ ∃ p, p < n ∧ G.testBit p = true ∧ z_bnd f n h p q n = true) := by
  unfold z_st
  rw [Nat.testBit_or, Bool.or_eq_true, z_bd_bit]
  constructor
  · rintro (r | ⟨j, hj, r1, r2, r3⟩)
    · exact Or.inl r
    · right
      rw [z_sn_bit hh (by omega)] at r3
      obtain ⟨p, p1, p2⟩ := z_and_ne.mp r2
      have hp : p < n := by
        rcases Nat.lt_or_ge p n with c | c
        · exact c
        · rw [z_hi hG c] at p2; cases p2
      rw [z_sn_bit hh (by omega)] at p1
      simp only [Bool.and_eq_true, Bool.not_eq_true'] at r3 p1
      exact ⟨r3.2, p, hp, p2, (z_bnd_iff n).mpr ⟨j, hj, r1, p1.1, r3.1⟩⟩
  · rintro (r | ⟨r1, p, hp, r2, r3⟩)
    · exact Or.inl r
    · right
      obtain ⟨j, hj, b1, b2, b3⟩ := (z_bnd_iff n).mp r3
      refine ⟨j, hj, b1, z_and_ne.mpr ⟨p, ?_, r2⟩, ?_⟩
      · rw [z_sn_bit hh (by omega), b2, hs p r2]; rfl
      · rw [z_sn_bit hh (by omega), b3, r1]; rfl
theorem z_st_seen {G : Nat} (hn : n ≤ 6) (hh : h < 64) (hG : G < 2 ^ n) (hs : ∀ p, G.testBit p = true → h.testBit p = false) : ∀ p, (z_st f n h G).testBit p = true → h.testBit p = false := by
  intro p hp
  have hpn : p < n := by
    rcases Nat.lt_or_ge p n with c | c
    · exact c
    · rw [z_hi (z_st_lt hG) c] at hp; cases hp
  rcases (z_st_bit hn hh hG hs hpn).mp hp with r | r
  · exact hs p r
  · exact r.1
theorem z_pc_lt : ∀ a, a < 64 → ∀ b, b < 64 → a &&& b = a → a ≠ b → z_pc a < z_pc b := by decide +kernel
theorem z_pcn : ∀ n, n < 7 → ∀ a, a < 64 → a < 2 ^ n → z_pc a ≤ n := by decide +kernel
theorem z_st_grow {G : Nat} (hn : n ≤ 6) (hG : G < 2 ^ n) (hne : z_st f n h G ≠ G) : z_pc G < z_pc (z_st f n h G) := by
  refine z_pc_lt G (z_h64 hn hG) _ (z_h64 hn (z_st_lt hG)) ?_ (Ne.symm hne)
  unfold z_st
  apply Nat.eq_of_testBit_eq
  intro i
  rw [Nat.testBit_and, Nat.testBit_or]
  cases G.testBit i <;> simp
theorem z_st_full {G : Nat} (hn : n ≤ 6) (hG : G < 2 ^ n) (hp : n ≤ z_pc G) : z_st f n h G = G := by
  apply Classical.byContradiction
  intro hne
  have h1 := z_st_grow hn hG hne
  have h2 := z_pcn n (by omega) _ (z_h64 hn (z_st_lt (h := h) (f := f) hG)) (z_st_lt hG)
  omega
theorem z_rd_id {G : Nat} (he : z_st f n h G = G) : ∀ k, z_rd f n h k G = G
  | 0 => rfl
  | k + 1 => by
    rw [z_rd]
    show z_rd f n h k (z_st f n h G) = G
    rw [he]; exact z_rd_id he k
theorem z_rd_st {G k : Nat} : z_rd f n h (k + 1) G = z_rd f n h k (z_st f n h G) := rfl
theorem z_rd_fix (hn : n ≤ 6) : ∀ k G, G < 2 ^ n → n ≤ k + z_pc G → z_st f n h (z_rd f n h k G) = z_rd f n h k G
  | 0, G, hG, hp => by
    show z_st f n h G = G
    exact z_st_full hn hG (by omega)
  | k + 1, G, hG, hp => by
    rw [z_rd_st]
    by_cases c : z_st f n h G = G
    · rw [c, z_rd_id c k]; exact c
    · exact z_rd_fix hn k _ (z_st_lt hG) (by have := z_st_grow hn hG c; omega)
end
theorem z_b01f : z_b01 false = 0 := rfl
theorem z_b01t : z_b01 true = 1 := rfl
section
variable {w : x_W} {n h : Nat} {f : Nat → Nat}
def z_kc (w w' : x_W) (n : Nat) (f : Nat → Nat) (h : Nat) : Prop := z_mx w' n f h ∧ ∀ k, k ≠ 18 → w'[k]? = w[k]?
theorem z_kc_t {w w' w'' : x_W} (K : z_kc w w' n f h) (K' : z_kc w' w'' n f h) : z_kc w w'' n f h := ⟨K'.1, fun k hk => by rw [K'.2 k hk, K.2 k hk]⟩
theorem z_mbnd (X : z_mx w n f h) {p q : Nat} (hp : p < n) (hq : q < n) : ∃ w1, fM_isBound w 18 (nI p) (nI q) = some (z_b01 (z_bnd f n h p q n), w1) ∧ z_kc w w1 n f h := by
  obtain ⟨w1, c1, X1, H1, c4⟩ := z_cut0 X
  obtain ⟨m0, m1, m2, m3⟩ := z_X0 X1
  have hn := X.2.1
  have hf := X.2.2.1
  have hh := z_h64 hn X.2.2.2.1
  refine ⟨w1, ?_, X1, c4⟩
  have loop : ∀ k v fuel, v + k = n → k < fuel → fM_isBound_10 fuel w1 18 (nI p) (nI q) (z_b01 (z_bnd f n h p q v)) (nI v) = some (z_b01 (z_bnd f n h p q n), w1) := by
    intro k
    induction k with
    | zero =>
      intro v fuel hv hk
      obtain ⟨m, rfl⟩ := z_suc hk
      rw [fM_isBound_10, m0, Option.bind_some, m1, Option.bind_some, if_pos (nI_le (show n ≤ v by omega) (by omega)), show v = n by omega]
      cases z_bnd f n h p q n <;> rfl
    | succ k ih =>
      intro v fuel hv hk
      obtain ⟨m, rfl⟩ := z_suc hk
      have hlt : v < n := by omega
      have next := ih (v + 1) m (by omega) (by omega)
      have r64 : z_rc f h v n < 64 := z_h64 hn (z_rc_lt h v n)
      have rr : z_rc (z_ct f 0) h v n = z_rc f h v n := z_rc_congr n (fun k hk => z_ct0 hn hf hk)
      rw [z_bnd] at next
      rw [fM_isBound_10, m0, Option.bind_some, m1, Option.bind_some, if_neg (nI_ge hlt (by omega)), m2, Option.bind_some, m3, Option.bind_some, z_has01 hh (by omega), z_inc, show (0 : Int32) = nI 0 from rfl, z_has01 (show 0 < 64 by omega) (show p < 6 by omega), z_Mreach H1 hlt hh, rr]
      simp only [Option.bind_some]
      rw [z_has01 r64 (show p < 6 by omega), z_has01 r64 (show q < 6 by omega), Nat.zero_testBit]
      have i0 : nI 0 = (0 : Int32) := rfl
      simp only [i0, z_010]
      cases c1 : h.testBit v
      · rw [c1, Bool.false_and, Bool.false_and, Bool.or_false] at next
        cases c2 : z_bnd f n h p q v
        · rw [c2] at next; simpa [z_b01f, z_b01t] using next
        · rw [c2] at next; simpa [z_b01f, z_b01t] using next
      · rw [c1, Bool.true_and] at next
        cases c2 : z_bnd f n h p q v <;> cases c3 : (z_rc f h v n).testBit p <;> cases c4 : (z_rc f h v n).testBit q <;> rw [c2, c3, c4] at next <;> simpa [z_b01f, z_b01t] using next
  unfold fM_isBound
  rw [c1, Option.bind_some]
  exact loop n 0 x_F (by omega) (by unfold x_F; omega)
end
