/-! the class's odds, would, effect and swayed -/
theorem z_nf_s : ∀ a, a < 17 → ∀ b, b < 2 → ∀ c, c < 17 → z_nf a b c 0 + z_nf a b c 1 = z_nf a b a b := by decide +kernel
theorem z_df_mono {f : Nat → Nat} {t : Nat → Nat → Nat} (ht : ∀ p v, t p v ≤ 16) {d1 e1 q1 v1 d2 e2 q2 v2 : Nat} : ∀ k p x y, z_df f t d1 e1 q1 v1 d2 e2 q2 v2 k p x y ≤ z_df f t d1 e1 q1 v1 d1 e1 q1 v1 k p x x
  | 0, _, _, _ => Nat.le_refl _
  | k + 1, p, x, y => by
    rw [z_df, z_df]
    dsimp only
    have ha : z_wi d1 e1 p (t p (x &&& f p)) < 17 := Nat.lt_succ_of_le (z_wi_le (ht _ _))
    have hc : z_wi d2 e2 p (t p (y &&& f p)) < 17 := Nat.lt_succ_of_le (z_wi_le (ht _ _))
    generalize z_wi d1 e1 p (t p (x &&& f p)) = a at ha ⊢
    generalize z_wi d2 e2 p (t p (y &&& f p)) = c at hc ⊢
    have row : ∀ b, b < 2 → (if z_tk q1 v1 p b && z_tk q2 v2 p 0 then z_nf a b c 0 else 0) * z_df f t d1 e1 q1 v1 d2 e2 q2 v2 k (p + 1) (x ||| b * 2 ^ p) (y ||| 0 * 2 ^ p) + (if z_tk q1 v1 p b && z_tk q2 v2 p 1 then z_nf a b c 1 else 0) * z_df f t d1 e1 q1 v1 d2 e2 q2 v2 k (p + 1) (x ||| b * 2 ^ p) (y ||| 1 * 2 ^ p) ≤ (if z_tk q1 v1 p b && z_tk q1 v1 p b then z_nf a b a b else 0) * z_df f t d1 e1 q1 v1 d1 e1 q1 v1 k (p + 1) (x ||| b * 2 ^ p) (x ||| b * 2 ^ p) := by
      intro b hb
      have h0 := z_df_mono (f := f) ht (d1 := d1) (e1 := e1) (q1 := q1) (v1 := v1) (d2 := d2) (e2 := e2) (q2 := q2) (v2 := v2) k (p + 1) (x ||| b * 2 ^ p) (y ||| 0 * 2 ^ p)
      have h1 := z_df_mono (f := f) ht (d1 := d1) (e1 := e1) (q1 := q1) (v1 := v1) (d2 := d2) (e2 := e2) (q2 := q2) (v2 := v2) k (p + 1) (x ||| b * 2 ^ p) (y ||| 1 * 2 ^ p)
      cases c1 : z_tk q1 v1 p b
      · simp
      · have s := z_nf_s a ha b hb c hc
        simp only [Bool.true_and, if_true]
        rw [← s, Nat.add_mul]
        refine Nat.add_le_add (Nat.mul_le_mul ?_ h0) (Nat.mul_le_mul ?_ h1)
        · split
          · exact Nat.le_refl _
          · exact Nat.zero_le _
        · split
          · exact Nat.le_refl _
          · exact Nat.zero_le _
    have r0 := row 0 (by omega)
    have r1 := row 1 (by omega)
    omega
section
variable {w : x_W} {g n h : Nat} {f : Nat → Nat} {t : Nat → Nat → Nat}
theorem z_Ctwo (A : z_A w g) (G : z_gc w g n f t h) {d1 e1 q1 v1 d2 e2 q2 v2 part : Nat} (W1 : z_wd w 16 d1 e1 q1 v1) (W2 : z_wd w 17 d2 e2 q2 v2) (hp : part < 2) : fA_oddsOfTwoGivenOne w 0 (nI part) = some (z_fin (z_df f t d1 e1 q1 v1 d2 e2 q2 v2 n 0 0 0) (z_df f t d1 e1 q1 v1 d1 e1 q1 v1 n 0 0 0) part) := by
  obtain ⟨a0, a1, -, -, -, a4, a5⟩ := z_A0 A
  have b0 := (z_G0 G).1
  have hn := G.1.2.1
  have ht := G.1.2.2.2.1
  have h16 := z_16n hn
  have B1 : z_df f t d1 e1 q1 v1 d2 e2 q2 v2 n 0 0 0 ≤ z_df f t d1 e1 q1 v1 d1 e1 q1 v1 n 0 0 0 := z_df_mono ht n 0 0 0
  have B2 : z_df f t d1 e1 q1 v1 d1 e1 q1 v1 n 0 0 0 ≤ 16 ^ n := z_df_le ht n 0 0 0
  have D1 := z_draws (z_gc_gr G) ht W1 W2
  have D2 := z_draws (z_gc_gr G) ht W1 W1
  generalize z_df f t d1 e1 q1 v1 d2 e2 q2 v2 n 0 0 0 = a at B1 D1 ⊢
  generalize z_df f t d1 e1 q1 v1 d1 e1 q1 v1 n 0 0 0 = b at B1 B2 D2 ⊢
  unfold fA_oddsOfTwoGivenOne z_fin
  rw [a1, Option.bind_some, a4, Option.bind_some, b0, Option.bind_some, D2, Option.bind_some]
  by_cases c : b = 0
  · subst c
    rw [if_neg (by decide), if_pos rfl]
  · have hg : 0 < Nat.gcd a b := Nat.gcd_pos_of_pos_right a (by omega)
    have hg2 : Nat.gcd a b ≤ b := Nat.le_of_dvd (by omega) (Nat.gcd_dvd_right a b)
    have ng : ¬ nI (Nat.gcd a b) = 0 := fun q => by have := (z_nz (by omega)).mp q; omega
    rw [if_pos (show (0 : Int32) < nI b from nI_lt (a := 0) (by omega) (by omega)), if_neg c, a5, Option.bind_some, D1, Option.bind_some, z_cm (by omega) (by omega) B1, Option.bind_some, if_neg ng, if_neg ng, pk_div (by omega) hg (by omega), pk_div (by omega) hg (by omega)]
    rcases z_b2 hp with rfl | rfl
    · rfl
    · rfl
theorem z_cVal (A : z_A w g) (G : z_gc w g n f t h) {q v : Nat} (hq : q < 2 ^ n) (hv : v &&& q = v) : fA_isValued w 0 (nI q) (nI v) = some 1 := by
  obtain ⟨a0, -⟩ := z_A0 A
  have hn := G.1.2.1
  have h64 : 2 ^ n ≤ 64 := z_pow hn
  have hv2 := z_vlt hq hv
  have := Nat.two_pow_pos n
  unfold fA_isValued
  rw [a0, Option.bind_some, z_all A G, Option.bind_some, z_within1 (by omega) (by omega) (z_sub_mask.mpr hq), if_neg (by decide), z_within1 (by omega) (by omega) hv, if_neg (by decide)]
theorem z_cVal0 (A : z_A w g) (G : z_gc w g n f t h) {x y : Int32} (hv : ¬ z_Vv n x y) : fA_isValued w 0 x y = some 0 := by
  obtain ⟨a0, -⟩ := z_A0 A
  have hn := G.1.2.1
  have h64 : 2 ^ n ≤ 64 := z_pow hn
  have := Nat.two_pow_pos n
  unfold fA_isValued
  rw [a0, Option.bind_some, z_all A G, Option.bind_some]
  rcases z_within (m := 2 ^ n - 1) (by omega) x with ⟨q, h1, h2, rfl⟩ | c
  · rw [z_within1 h1 (by omega) h2, if_neg (by decide)]
    have hq := z_sub_mask.mp h2
    rcases z_within (m := q) h1 y with ⟨v, h3, h4, rfl⟩ | c
    · exact absurd ⟨q, v, hq, h4, rfl, rfl⟩ hv
    · rw [c, if_pos rfl]
  · rw [c, if_pos rfl]
theorem z_cP1 {k : Nat} (hk : k < 2) : fA_isPart 0 (nI k) = 1 := by rcases z_b2 hk with rfl | rfl <;> decide
theorem z_cP0 {x : Int32} (hx : ¬ ∃ k, k < 2 ∧ x = nI k) : fA_isPart 0 x = 0 := by
  unfold fA_isPart
  rw [if_neg (show ¬ x = 0 from fun e => hx ⟨0, by omega, e⟩), if_neg (show ¬ x = 1 from fun e => hx ⟨1, by omega, e⟩)]
theorem z_worlds (A : z_A w g) (G : z_gc w g n f t h) (S : z_sc w) {x1 x2 x3 x4 y1 y2 y3 y4 : Nat} (hx1 : x1 < 64) (hx2 : x2 < 64) (hx3 : x3 < 64) (hx4 : x4 < 64) (hy1 : y1 < 64) (hy2 : y2 < 64) (hy3 : y3 < 64) (hy4 : y4 < 64) : ∃ w1 w2, fO_become w 16 (nI x1) (nI x2) (nI x3) (nI x4) = some w1 ∧ fO_become w1 17 (nI y1) (nI y2) (nI y3) (nI y4) = some w2 ∧ x_ob w 16 3 = some () ∧ x_ob w1 17 3 = some () ∧ z_A w1 g ∧ z_A w2 g ∧ z_gc w2 g n f t h ∧ z_wd w2 16 x1 x2 x3 x4 ∧ z_wd w2 17 y1 y2 y3 y4 ∧ z_sc w2 ∧ ∀ j, j ≠ 16 → j ≠ 17 → w2[j]? = w[j]? := by
  obtain ⟨s1, s2, s3, s4, s5, s6, ⟨a, b, c, d, s7⟩, a', b', c', d', s8⟩ := S
  obtain ⟨w1, r1, r2, r3⟩ := z_become s7 (nI x1) (nI x2) (nI x3) (nI x4)
  have s8' : w1[17]? = some (.inr (3, [a', b', c', d'])) := by rw [r3 17 (by omega)]; exact s8
  obtain ⟨w2, q1, q2, q3⟩ := z_become s8' (nI y1) (nI y2) (nI y3) (nI y4)
  have e : ∀ j, j ≠ 16 → j ≠ 17 → w2[j]? = w[j]? := fun j h1 h2 => by rw [q3 j h2, r3 j h1]
  have r2' : w2[16]? = some (.inr (3, [.int (nI x1), .int (nI x2), .int (nI x3), .int (nI x4)])) := by rw [q3 16 (by omega)]; exact r2
  have hg := A.2
  refine ⟨w1, w2, r1, q1, z_ob s7, z_ob s8', ⟨by rw [r3 0 (by omega)]; exact A.1, A.2⟩, ⟨by rw [e 0 (by omega) (by omega)]; exact A.1, A.2⟩, z_gc_same G (fun j h1 h2 => e j (by omega) (by omega)), z_wd_of r2' hx1 hx2 hx3 hx4, z_wd_of q2 hy1 hy2 hy3 hy4, ?_, e⟩
  refine ⟨?_, ?_, ?_, ?_, ?_, ?_, ⟨_, _, _, _, r2'⟩, ⟨_, _, _, _, q2⟩⟩
  · rw [e 9 (by omega) (by omega), e 10 (by omega) (by omega)]; exact s1
  · rw [e 11 (by omega) (by omega)]; exact s2
  · rw [e 12 (by omega) (by omega)]; exact s3
  · rw [e 13 (by omega) (by omega)]; exact s4
  · rw [e 14 (by omega) (by omega)]; exact s5
  · rw [e 15 (by omega) (by omega)]; exact s6
theorem z_Codds (A : z_A w g) (G : z_gc w g n f t h) (S : z_sc w) {q v d e u r part : Nat} (hq : q < 2 ^ n) (hv : v &&& q = v) (hd : d < 2 ^ n) (he : e &&& d = e) (hu : u < 2 ^ n) (hr : r &&& u = r) (hp : part < 2) : ∃ w', fA_odds w 0 (nI q) (nI v) (nI d) (nI e) (nI u) (nI r) (nI part) = some (z_fin (z_df f t d e u r d e q v n 0 0 0) (z_df f t d e u r d e u r n 0 0 0) part, w') ∧ z_sc w' ∧ ∀ j, j ≠ 16 → j ≠ 17 → w'[j]? = w[j]? := by
  have hn := G.1.2.1
  obtain ⟨w1, w2, p1, p2, p3, p4, p5, p6, p7, p8, p9, p10, p11⟩ := z_worlds A G S (z_h64 hn hd) (z_h64 hn (z_vlt hd he)) (z_h64 hn hu) (z_h64 hn (z_vlt hu hr)) (z_h64 hn hd) (z_h64 hn (z_vlt hd he)) (z_h64 hn hq) (z_h64 hn (z_vlt hq hv))
  refine ⟨w2, ?_, p10, p11⟩
  unfold fA_odds
  rw [(z_A0 A).1, Option.bind_some, z_cVal A G hq hv, Option.bind_some, if_neg (by decide), z_cVal A G hd he, Option.bind_some, if_neg (by decide), z_cVal A G hu hr, Option.bind_some, if_neg (by decide), z_cP1 hp, if_neg (by decide), (z_A0 A).2.2.2.2.2.1, Option.bind_some, p3, Option.bind_some, p1, Option.bind_some, (z_A0 p5).2.2.2.2.2.2, Option.bind_some, p4, Option.bind_some, p2, Option.bind_some, (z_A0 p6).1, Option.bind_some, z_Ctwo p6 p7 p8 p9 hp, Option.bind_some]
theorem z_Cwould (A : z_A w g) (G : z_gc w g n f t h) (S : z_sc w) {q v d e u r part : Nat} (hq : q < 2 ^ n) (hv : v &&& q = v) (hd : d < 2 ^ n) (he : e &&& d = e) (hu : u < 2 ^ n) (hr : r &&& u = r) (hp : part < 2) : ∃ w', fA_would w 0 (nI q) (nI v) (nI d) (nI e) (nI u) (nI r) (nI part) = some (z_fin (z_df f t 0 0 u r d e q v n 0 0 0) (z_df f t 0 0 u r 0 0 u r n 0 0 0) part, w') ∧ z_sc w' ∧ ∀ j, j ≠ 16 → j ≠ 17 → w'[j]? = w[j]? := by
  have hn := G.1.2.1
  obtain ⟨w1, w2, p1, p2, p3, p4, p5, p6, p7, p8, p9, p10, p11⟩ := z_worlds A G S (show 0 < 64 by omega) (show 0 < 64 by omega) (z_h64 hn hu) (z_h64 hn (z_vlt hu hr)) (z_h64 hn hd) (z_h64 hn (z_vlt hd he)) (z_h64 hn hq) (z_h64 hn (z_vlt hq hv))
  refine ⟨w2, ?_, p10, p11⟩
  unfold fA_would
  rw [(z_A0 A).1, Option.bind_some, z_cVal A G hq hv, Option.bind_some, if_neg (by decide), z_cVal A G hd he, Option.bind_some, if_neg (by decide), z_cVal A G hu hr, Option.bind_some, if_neg (by decide), z_cP1 hp, if_neg (by decide), (z_A0 A).2.2.2.2.2.1, Option.bind_some, p3, Option.bind_some, show (0 : Int32) = nI 0 from rfl, p1, Option.bind_some, (z_A0 p5).2.2.2.2.2.2, Option.bind_some, p4, Option.bind_some, p2, Option.bind_some, (z_A0 p6).1, Option.bind_some, z_Ctwo p6 p7 p8 p9 hp, Option.bind_some]
theorem z_Codds0 (A : z_A w g) (G : z_gc w g n f t h) {q v d e u r part : Int32} (hv : ¬ z_Vo n q v d e u r part) : fA_odds w 0 q v d e u r part = some (-2, w) := by
  unfold fA_odds
  rw [(z_A0 A).1, Option.bind_some]
  by_cases c1 : z_Vv n q v
  · by_cases c2 : z_Vv n d e
    · by_cases c3 : z_Vv n u r
      · have c4 : ¬ ∃ k, k < 2 ∧ part = nI k := fun z => hv ⟨c1, c2, c3, z⟩
        obtain ⟨_, _, a1, a2, rfl, rfl⟩ := c1
        obtain ⟨_, _, b1, b2, rfl, rfl⟩ := c2
        obtain ⟨_, _, d1, d2, rfl, rfl⟩ := c3
        rw [z_cVal A G a1 a2, Option.bind_some, if_neg (by decide), z_cVal A G b1 b2, Option.bind_some, if_neg (by decide), z_cVal A G d1 d2, Option.bind_some, if_neg (by decide), z_cP0 c4, if_pos rfl]
      · obtain ⟨_, _, a1, a2, rfl, rfl⟩ := c1
        obtain ⟨_, _, b1, b2, rfl, rfl⟩ := c2
        rw [z_cVal A G a1 a2, Option.bind_some, if_neg (by decide), z_cVal A G b1 b2, Option.bind_some, if_neg (by decide), z_cVal0 A G c3, Option.bind_some, if_pos rfl]
    · obtain ⟨_, _, a1, a2, rfl, rfl⟩ := c1
      rw [z_cVal A G a1 a2, Option.bind_some, if_neg (by decide), z_cVal0 A G c2, Option.bind_some, if_pos rfl]
  · rw [z_cVal0 A G c1, Option.bind_some, if_pos rfl]
theorem z_Cwould0 (A : z_A w g) (G : z_gc w g n f t h) {q v d e u r part : Int32} (hv : ¬ z_Vo n q v d e u r part) : fA_would w 0 q v d e u r part = some (-2, w) := by
  unfold fA_would
  rw [(z_A0 A).1, Option.bind_some]
  by_cases c1 : z_Vv n q v
  · by_cases c2 : z_Vv n d e
    · by_cases c3 : z_Vv n u r
      · have c4 : ¬ ∃ k, k < 2 ∧ part = nI k := fun z => hv ⟨c1, c2, c3, z⟩
        obtain ⟨_, _, a1, a2, rfl, rfl⟩ := c1
        obtain ⟨_, _, b1, b2, rfl, rfl⟩ := c2
        obtain ⟨_, _, d1, d2, rfl, rfl⟩ := c3
        rw [z_cVal A G a1 a2, Option.bind_some, if_neg (by decide), z_cVal A G b1 b2, Option.bind_some, if_neg (by decide), z_cVal A G d1 d2, Option.bind_some, if_neg (by decide), z_cP0 c4, if_pos rfl]
      · obtain ⟨_, _, a1, a2, rfl, rfl⟩ := c1
        obtain ⟨_, _, b1, b2, rfl, rfl⟩ := c2
        rw [z_cVal A G a1 a2, Option.bind_some, if_neg (by decide), z_cVal A G b1 b2, Option.bind_some, if_neg (by decide), z_cVal0 A G c3, Option.bind_some, if_pos rfl]
    · obtain ⟨_, _, a1, a2, rfl, rfl⟩ := c1
      rw [z_cVal A G a1 a2, Option.bind_some, if_neg (by decide), z_cVal0 A G c2, Option.bind_some, if_pos rfl]
  · rw [z_cVal0 A G c1, Option.bind_some, if_pos rfl]
theorem z_Ceffect (A : z_A w g) (G : z_gc w g n f t h) (S : z_sc w) {i j : Nat} (hi : i < n) (hj : j < n) (hij : i ≠ j) : ∃ w', fA_effect w 0 (nI i) (nI j) = some (nI (z_df f t (2 ^ i) (2 ^ i) (2 ^ j) (2 ^ j) (2 ^ i) (2 ^ i) (2 ^ j) (2 ^ j) n 0 0 0) - nI (z_df f t (2 ^ i) 0 (2 ^ j) (2 ^ j) (2 ^ i) 0 (2 ^ j) (2 ^ j) n 0 0 0), w') ∧ z_sc w' ∧ ∀ k, k ≠ 16 → k ≠ 17 → w'[k]? = w[k]? := by
  have hn := G.1.2.1
  have ht := G.1.2.2.2.1
  have hi2 := z_h64 hn (z_p2 hi)
  have hj2 := z_h64 hn (z_p2 hj)
  obtain ⟨w1, w2, p1, p2, p3, p4, p5, p6, p7, p8, p9, p10, p11⟩ := z_worlds A G S hi2 hi2 hj2 hj2 hi2 (show 0 < 64 by omega) hj2 hj2
  refine ⟨w2, ?_, p10, p11⟩
  unfold fA_effect
  rw [(z_A0 A).1, Option.bind_some, z_pair A G hi hj hij, Option.bind_some, if_neg (by decide), (z_A0 A).2.2.2.2.2.1, Option.bind_some, p3, Option.bind_some, z_bit i (by omega), z_bit j (by omega), p1, Option.bind_some, (z_A0 p5).2.2.2.2.2.2, Option.bind_some, p4, Option.bind_some, show (0 : Int32) = nI 0 from rfl, p2, Option.bind_some, (z_A0 p6).2.1, Option.bind_some, (z_A0 p6).2.2.2.2.2.1, Option.bind_some, (z_G0 p7).1, Option.bind_some, z_draws (z_gc_gr p7) ht p8 p8, Option.bind_some, (z_A0 p6).2.2.2.2.2.2, Option.bind_some, z_draws (z_gc_gr p7) ht p9 p9, Option.bind_some]
theorem z_Cswayed (A : z_A w g) (G : z_gc w g n f t h) (S : z_sc w) {i j : Nat} (hi : i < n) (hj : j < n) (hij : i ≠ j) : ∃ w', fA_swayed w 0 (nI i) (nI j) = some (nI (z_df f t (2 ^ i) (2 ^ i) (2 ^ j) (2 ^ j) (2 ^ i) 0 (2 ^ j) 0 n 0 0 0), w') ∧ z_sc w' ∧ ∀ k, k ≠ 16 → k ≠ 17 → w'[k]? = w[k]? := by
  have hn := G.1.2.1
  have ht := G.1.2.2.2.1
  have hi2 := z_h64 hn (z_p2 hi)
  have hj2 := z_h64 hn (z_p2 hj)
  obtain ⟨w1, w2, p1, p2, p3, p4, p5, p6, p7, p8, p9, p10, p11⟩ := z_worlds A G S hi2 hi2 hj2 hj2 hi2 (show 0 < 64 by omega) hj2 (show 0 < 64 by omega)
  refine ⟨w2, ?_, p10, p11⟩
  unfold fA_swayed
  rw [(z_A0 A).1, Option.bind_some, z_pair A G hi hj hij, Option.bind_some, if_neg (by decide), (z_A0 A).2.2.2.2.2.1, Option.bind_some, p3, Option.bind_some, z_bit i (by omega), z_bit j (by omega), p1, Option.bind_some, (z_A0 p5).2.2.2.2.2.2, Option.bind_some, p4, Option.bind_some, show (0 : Int32) = nI 0 from rfl, p2, Option.bind_some, (z_A0 p6).2.1, Option.bind_some, (z_A0 p6).2.2.2.2.2.1, Option.bind_some, (z_A0 p6).2.2.2.2.2.2, Option.bind_some, (z_G0 p7).1, Option.bind_some, z_draws (z_gc_gr p7) ht p8 p9, Option.bind_some]
theorem z_Ceffect0 (A : z_A w g) (G : z_gc w g n f t h) {a b : Int32} (hv : ¬ z_Vp n a b) : fA_effect w 0 a b = some (-2, w) := by
  unfold fA_effect
  rw [(z_A0 A).1, Option.bind_some, z_pair0 A G hv, Option.bind_some, if_pos rfl]
theorem z_Cswayed0 (A : z_A w g) (G : z_gc w g n f t h) {a b : Int32} (hv : ¬ z_Vp n a b) : fA_swayed w 0 a b = some (-2, w) := by
  unfold fA_swayed
  rw [(z_A0 A).1, Option.bind_some, z_pair0 A G hv, Option.bind_some, if_pos rfl]
end
