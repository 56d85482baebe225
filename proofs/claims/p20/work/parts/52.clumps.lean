/-! clumps part the seen places; how many there are; told -/
section
variable {f : Nat → Nat} {n h : Nat}
theorem z_bn {a i : Nat} (ha : a < 2 ^ n) (hi : a.testBit i = true) : i < n := by
  rcases Nat.lt_or_ge i n with c | c
  · exact c
  · rw [z_hi ha c] at hi; cases hi
theorem z_st_mono {G G' : Nat} (hn : n ≤ 6) (hh : h < 64) (hG : G < 2 ^ n) (hG' : G' < 2 ^ n) (hs : ∀ p, G.testBit p = true → h.testBit p = false) (hs' : ∀ p, G'.testBit p = true → h.testBit p = false) (hsub : ∀ i, G.testBit i = true → G'.testBit i = true) : ∀ i, (z_st f n h G).testBit i = true → (z_st f n h G').testBit i = true := by
  intro i hi
  have hin := z_bn (z_st_lt hG) hi
  rw [z_st_bit hn hh hG' hs' hin]
  rcases (z_st_bit hn hh hG hs hin).mp hi with r | ⟨r1, p, r2, r3, r4⟩
  · exact Or.inl (hsub i r)
  · exact Or.inr ⟨r1, p, r2, hsub p r3, r4⟩
theorem z_rd_mono (hn : n ≤ 6) (hh : h < 64) : ∀ k G G', G < 2 ^ n → G' < 2 ^ n → (∀ p, G.testBit p = true → h.testBit p = false) → (∀ p, G'.testBit p = true → h.testBit p = false) → (∀ i, G.testBit i = true → G'.testBit i = true) → ∀ i, (z_rd f n h k G).testBit i = true → (z_rd f n h k G').testBit i = true
  | 0, _, _, _, _, _, _, hsub => hsub
  | k + 1, G, G', hG, hG', hs, hs', hsub => z_rd_mono hn hh k _ _ (z_st_lt hG) (z_st_lt hG') (z_st_seen hn hh hG hs) (z_st_seen hn hh hG' hs') (z_st_mono hn hh hG hG' hs hs' hsub)
theorem z_rd_snoc : ∀ k G, z_rd f n h (k + 1) G = z_st f n h (z_rd f n h k G)
  | 0, _ => rfl
  | k + 1, G => by rw [z_rd_st, z_rd_snoc k, ← z_rd_st]
theorem z_rd_lt : ∀ k G, G < 2 ^ n → z_rd f n h k G < 2 ^ n
  | 0, _, hG => hG
  | k + 1, G, hG => z_rd_lt k _ (z_st_lt hG)
theorem z_rd_seen (hn : n ≤ 6) (hh : h < 64) : ∀ k G, G < 2 ^ n → (∀ p, G.testBit p = true → h.testBit p = false) → ∀ p, (z_rd f n h k G).testBit p = true → h.testBit p = false
  | 0, _, _, hs => hs
  | k + 1, G, hG, hs => z_rd_seen hn hh k _ (z_st_lt hG) (z_st_seen hn hh hG hs)
theorem z_one_seen {p : Nat} (c : h.testBit p = false) : ∀ q, (2 ^ p).testBit q = true → h.testBit q = false := by
  intro q hq
  rw [Nat.testBit_two_pow, decide_eq_true_iff] at hq
  rw [← hq]; exact c
theorem z_st_sub {G i : Nat} (hi : G.testBit i = true) : (z_st f n h G).testBit i = true := by
  unfold z_st
  rw [Nat.testBit_or, hi]; rfl
theorem z_rd_sub : ∀ k G i, G.testBit i = true → (z_rd f n h k G).testBit i = true
  | 0, _, _, hi => hi
  | k + 1, _, i, hi => z_rd_sub k _ i (z_st_sub hi)
theorem z_bnd_sym {p q : Nat} (hb : z_bnd f n h p q n = true) : z_bnd f n h q p n = true := by
  rw [z_bnd_iff] at hb ⊢
  obtain ⟨j, h1, h2, h3, h4⟩ := hb
  exact ⟨j, h1, h2, h4, h3⟩
theorem z_cl_h {p : Nat} (c : h.testBit p = true) : z_cl f n h p = 0 := by unfold z_cl; rw [if_pos c]
theorem z_cl_s {p : Nat} (c : h.testBit p = false) : z_cl f n h p = z_rd f n h n (2 ^ p) := by unfold z_cl; rw [if_neg (by rw [c]; decide)]
theorem z_cl_lt {p : Nat} (hp : p < n) : z_cl f n h p < 2 ^ n := by
  unfold z_cl
  split
  · exact Nat.two_pow_pos n
  · exact z_rd_lt n _ (z_p2 hp)
theorem z_cl_self {p : Nat} (c : h.testBit p = false) : (z_cl f n h p).testBit p = true := by
  rw [z_cl_s c]
  exact z_rd_sub n _ p (Nat.testBit_two_pow_self)
theorem z_cl_seen {p q : Nat} (hn : n ≤ 6) (hh : h < 64) (hp : p < n) (hq : (z_cl f n h p).testBit q = true) : h.testBit p = false ∧ h.testBit q = false := by
  cases c : h.testBit p
  · rw [z_cl_s c] at hq
    exact ⟨rfl, z_rd_seen hn hh n _ (z_p2 hp) (z_one_seen c) q hq⟩
  · rw [z_cl_h c, Nat.zero_testBit] at hq; cases hq
theorem z_cl_fix {p : Nat} (hn : n ≤ 6) (hp : p < n) (c : h.testBit p = false) : z_st f n h (z_cl f n h p) = z_cl f n h p := by
  rw [z_cl_s c]
  exact z_rd_fix hn n _ (z_p2 hp) (by omega)
theorem z_cl_sub {p q : Nat} (hn : n ≤ 6) (hh : h < 64) (hp : p < n) (hq : (z_cl f n h p).testBit q = true) : ∀ i, (z_cl f n h q).testBit i = true → (z_cl f n h p).testBit i = true := by
  obtain ⟨c1, c2⟩ := z_cl_seen hn hh hp hq
  have hqn := z_bn (z_cl_lt hp) hq
  intro i hi
  have hsee : ∀ r, (z_cl f n h p).testBit r = true → h.testBit r = false := fun r hr => (z_cl_seen hn hh hp hr).2
  have m := z_rd_mono (f := f) hn hh n (2 ^ q) (z_cl f n h p) (z_p2 hqn) (z_cl_lt hp) (z_one_seen c2) hsee (fun r hr => by
    rw [Nat.testBit_two_pow, decide_eq_true_iff] at hr
    rw [← hr]; exact hq) i
  rw [z_cl_s c2] at hi
  have := m hi
  rw [z_rd_id (z_cl_fix hn hp c1)] at this
  exact this
theorem z_cl_sym {p : Nat} (hn : n ≤ 6) (hh : h < 64) (hp : p < n) (c : h.testBit p = false) : ∀ k q, (z_rd f n h k (2 ^ p)).testBit q = true → (z_cl f n h q).testBit p = true
  | 0, q, hq => by
    rw [z_rd, Nat.testBit_two_pow, decide_eq_true_iff] at hq
    rw [← hq]; exact z_cl_self c
  | k + 1, q, hq => by
    rw [z_rd_snoc] at hq
    have hG := z_rd_lt (f := f) (h := h) k (2 ^ p) (z_p2 hp)
    have hS := z_rd_seen (f := f) hn hh k (2 ^ p) (z_p2 hp) (z_one_seen c)
    have hqn := z_bn (z_st_lt hG) hq
    rcases (z_st_bit hn hh hG hS hqn).mp hq with r | ⟨r1, r, r2, r3, r4⟩
    · exact z_cl_sym hn hh hp c k q r
    · have i1 := z_cl_sym hn hh hp c k r r3
      have hr : (z_cl f n h q).testBit r = true := by
        rw [← z_cl_fix hn hqn r1, z_st_bit hn hh (z_cl_lt hqn) (fun i hi => (z_cl_seen hn hh hqn hi).2) r2]
        exact Or.inr ⟨hS r r3, q, hqn, z_cl_self r1, z_bnd_sym r4⟩
      exact z_cl_sub hn hh hqn hr p i1
theorem z_cl_symm {p q : Nat} (hn : n ≤ 6) (hh : h < 64) (hp : p < n) (hq : (z_cl f n h p).testBit q = true) : (z_cl f n h q).testBit p = true := by
  have c := (z_cl_seen hn hh hp hq).1
  rw [z_cl_s c] at hq
  exact z_cl_sym hn hh hp c n q hq
/-- the reference's count -/
def z_mc (cl : Nat → Nat) : Nat → Nat → Nat → Nat
  | 0, _, c => c
  | k + 1, q, c => z_mc cl k (q + 1) (if cl q = 0 then c else if cl q &&& (2 ^ q - 1) = 0 then c + 1 else c)
theorem z_hc_mc (hn : n ≤ 6) (hh : h < 64) : ∀ k q c done, q + k = n → (∀ i, i < n → (done.testBit i = true ↔ h.testBit i = true ∨ ∃ j, j < q ∧ (z_cl f n h j).testBit i = true)) → z_hc (z_cl f n h) k q c done = z_mc (z_cl f n h) k q c
  | 0, _, _, _, _, _ => rfl
  | k + 1, q, c, done, hq, hd => by
    have hqn : q < n := by omega
    rw [z_hc, z_mc]
    by_cases b : done.testBit q = true
    · rw [if_pos b]
      have e : (if z_cl f n h q = 0 then c else if z_cl f n h q &&& (2 ^ q - 1) = 0 then c + 1 else c) = c := by
        by_cases e1 : z_cl f n h q = 0
        · rw [if_pos e1]
        · rw [if_neg e1, if_neg]
          rcases (hd q hqn).mp b with r | ⟨j, hj, r⟩
          · exact absurd (z_cl_h r) e1
          · refine z_and_ne.mpr ⟨j, z_cl_symm hn hh (by omega) r, ?_⟩
            rw [Nat.testBit_two_pow_sub_one]
            exact decide_eq_true hj
      rw [e]
      refine z_hc_mc hn hh k (q + 1) c done (by omega) fun i hi => ?_
      rw [hd i hi]
      constructor
      · rintro (r | ⟨j, hj, r⟩)
        · exact Or.inl r
        · exact Or.inr ⟨j, by omega, r⟩
      · rintro (r | ⟨j, hj, r⟩)
        · exact Or.inl r
        · by_cases ej : j = q
          · subst ej
            rcases (hd j hqn).mp b with s | ⟨j', hj', s⟩
            · rw [z_cl_h s, Nat.zero_testBit] at r; cases r
            · exact Or.inr ⟨j', hj', z_cl_sub hn hh (by omega) s i r⟩
          · exact Or.inr ⟨j, by omega, r⟩
    · rw [if_neg b]
      have hq0 : h.testBit q = false := by
        cases z : h.testBit q
        · rfl
        · exact absurd ((hd q hqn).mpr (Or.inl z)) b
      have e1 : ¬ z_cl f n h q = 0 := fun e => by
        have := z_cl_self (f := f) (n := n) hq0
        rw [e, Nat.zero_testBit] at this; cases this
      have e2 : z_cl f n h q &&& (2 ^ q - 1) = 0 := by
        apply Classical.byContradiction
        intro ne
        obtain ⟨j, j1, j2⟩ := z_and_ne.mp ne
        rw [Nat.testBit_two_pow_sub_one, decide_eq_true_iff] at j2
        exact b ((hd q hqn).mpr (Or.inr ⟨j, j2, z_cl_symm hn hh hqn j1⟩))
      rw [if_neg e1, if_pos e2]
      refine z_hc_mc hn hh k (q + 1) (c + 1) _ (by omega) fun i hi => ?_
      rw [Nat.testBit_or, Bool.or_eq_true, hd i hi]
      constructor
      · rintro ((r | ⟨j, hj, r⟩) | r)
        · exact Or.inl r
        · exact Or.inr ⟨j, by omega, r⟩
        · exact Or.inr ⟨q, by omega, r⟩
      · rintro (r | ⟨j, hj, r⟩)
        · exact Or.inl (Or.inl r)
        · by_cases ej : j = q
          · subst ej; exact Or.inr r
          · exact Or.inl (Or.inr ⟨j, by omega, r⟩)
theorem z_hc_all (hn : n ≤ 6) (hh : h < 64) : z_hc (z_cl f n h) n 0 0 h = z_mc (z_cl f n h) n 0 0 := z_hc_mc hn hh n 0 0 h (by omega) fun i _ => ⟨fun r => Or.inl r, fun r => by
  rcases r with r | ⟨j, hj, -⟩
  · exact r
  · omega⟩
end
section
variable {w : x_W} {n h : Nat} {f : Nat → Nat}
theorem z_Mclumps (X : z_mx w n f h) : ∃ w', fM_clumps w 18 = some (nI (z_hc (z_cl f n h) n 0 0 h), w') ∧ z_kc w w' n f h := by
  have hn := X.2.1
  have hh := z_h64 hn X.2.2.2.1
  rw [z_hc_all hn hh]
  have loop : ∀ k q c fuel (w : x_W), q + k = n → k < fuel → z_mx w n f h → ∃ w', fM_clumps_4 fuel w 18 (nI c) (nI q) = some (nI (z_mc (z_cl f n h) k q c), w') ∧ z_kc w w' n f h := by
    intro k
    induction k with
    | zero =>
      intro q c fuel w hq hk X
      obtain ⟨m, rfl⟩ := z_suc hk
      obtain ⟨m0, m1, m2, m3⟩ := z_X0 X
      refine ⟨w, ?_, X, fun _ _ => rfl⟩
      rw [fM_clumps_4, m0, Option.bind_some, m1, Option.bind_some, if_pos (nI_le (show n ≤ q by omega) (by omega))]
      rfl
    | succ k ih =>
      intro q c fuel w hq hk X
      obtain ⟨m, rfl⟩ := z_suc hk
      obtain ⟨m0, m1, m2, m3⟩ := z_X0 X
      have hlt : q < n := by omega
      obtain ⟨w1, r1, r2⟩ := z_Mclump X hlt
      have l1 := z_h64 hn (z_cl_lt (f := f) (h := h) hlt)
      have l2 := Nat.lt_of_le_of_lt (Nat.and_le_left (n := z_cl f n h q) (m := 2 ^ q - 1)) l1
      rw [fM_clumps_4, m0, Option.bind_some, m1, Option.bind_some, if_neg (nI_ge hlt (by omega)), r1, Option.bind_some]
      dsimp only
      rw [z_bit q (by omega), show (1 : Int32) = nI 1 from rfl, pk_sub (Nat.two_pow_pos q), z_and, nI_add, nI_add, z_mc]
      by_cases e1 : z_cl f n h q = 0
      · rw [if_pos ((z_nz (by omega)).mpr e1), if_pos e1]
        obtain ⟨w', r3, r4⟩ := ih (q + 1) c m w1 (by omega) (by omega) r2.1
        exact ⟨w', r3, z_kc_t r2 r4⟩
      · rw [if_neg (fun z => e1 ((z_nz (by omega)).mp z)), if_neg e1]
        by_cases e2 : z_cl f n h q &&& (2 ^ q - 1) = 0
        · rw [if_pos ((z_nz (by omega)).mpr e2), if_pos e2]
          obtain ⟨w', r3, r4⟩ := ih (q + 1) (c + 1) m w1 (by omega) (by omega) r2.1
          exact ⟨w', r3, z_kc_t r2 r4⟩
        · rw [if_neg (fun z => e2 ((z_nz (by omega)).mp z)), if_neg e2]
          obtain ⟨w', r3, r4⟩ := ih (q + 1) c m w1 (by omega) (by omega) r2.1
          exact ⟨w', r3, z_kc_t r2 r4⟩
  unfold fM_clumps
  exact loop n 0 0 x_F w (by omega) (by unfold x_F; omega) X
/-- told -/
def z_told (f : Nat → Nat) (n h p : Nat) : Int32 := if z_sn f n h p &&& z_cl f n h p = 0 then 1 else 0
theorem z_Mtold (X : z_mx w n f h) {p : Nat} (hp : p < n) (c : h.testBit p = false) : ∃ w', fM_told w 18 (nI p) = some (z_told f n h p, w') ∧ z_kc w w' n f h := by
  obtain ⟨m0, m1, m2, m3⟩ := z_X0 X
  have hn := X.2.1
  have hf := X.2.2.1
  have hh := z_h64 hn X.2.2.2.1
  obtain ⟨w1, c1, X1, H1, c4⟩ := z_cut0 X
  obtain ⟨k0, k1, k2, k3⟩ := z_X0 X1
  have rr : z_rc (z_ct f 0) h p n = z_rc f h p n := z_rc_congr n (fun k hk => z_ct0 hn hf hk)
  obtain ⟨w', r1, r2⟩ := z_Mclump X1 hp
  have l1 := z_h64 hn (z_rc_lt (f := f) h p n)
  refine ⟨w', ?_, z_kc_t ⟨X1, c4⟩ r2⟩
  unfold fM_told z_told
  rw [m0, Option.bind_some, z_mPl X hp, Option.bind_some, if_neg (by decide), m2, Option.bind_some, m3, Option.bind_some, z_has01 hh (by omega), if_pos (z_010.mpr c), c1, Option.bind_some, k2, Option.bind_some, k3, Option.bind_some, z_Mreach H1 hp hh, Option.bind_some, r1, Option.bind_some]
  dsimp only
  rw [rr, z_not _ l1 _ hh, z_and]
  have l2 : z_rc f h p n &&& (63 - h) &&& z_cl f n h p < 64 := Nat.lt_of_le_of_lt Nat.and_le_left (Nat.lt_of_le_of_lt Nat.and_le_left l1)
  have e : z_sn f n h p &&& z_cl f n h p = z_rc f h p n &&& (63 - h) &&& z_cl f n h p := rfl
  rw [e]
  by_cases d : z_rc f h p n &&& (63 - h) &&& z_cl f n h p = 0
  · rw [if_pos ((z_nz (by omega)).mpr d), if_pos d]
  · rw [if_neg (fun z => d ((z_nz (by omega)).mp z)), if_neg d]
theorem z_Mtold0 (X : z_mx w n f h) {x : Int32} (hx : ¬ ∃ k, k < n ∧ h.testBit k = false ∧ x = nI k) : fM_told w 18 x = some (-2, w) := by
  obtain ⟨m0, m1, m2, m3⟩ := z_X0 X
  have hn := X.2.1
  have hh := z_h64 hn X.2.2.2.1
  unfold fM_told
  rw [m0, Option.bind_some]
  by_cases c : ∃ k, k < n ∧ x = nI k
  · obtain ⟨p, hp, rfl⟩ := c
    have c1 : ¬ h.testBit p = false := fun z => hx ⟨p, hp, z, rfl⟩
    rw [z_mPl X hp, Option.bind_some, if_neg (by decide), m2, Option.bind_some, m3, Option.bind_some, z_has01 hh (by omega), if_neg (fun z => c1 (z_010.mp z))]
  · rw [z_mPl0 X c, Option.bind_some, if_pos rfl]
end
