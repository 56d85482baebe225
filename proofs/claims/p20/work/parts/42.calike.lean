/-! the class's alike -/
def z_same (n : Nat) (f : Nat → Nat) (t : Nat → Nat → Nat) (f' : Nat → Nat) (t' : Nat → Nat → Nat) (d e s : Nat) : Bool := decide (∀ v, v < 2 ^ n → v &&& s = v → z_df f t d e s v d e s v n 0 0 0 = z_df f' t' d e s v d e s v n 0 0 0)
def z_acts (n : Nat) (f : Nat → Nat) (t : Nat → Nat → Nat) (f' : Nat → Nat) (t' : Nat → Nat → Nat) : Bool := decide (∀ p, p < n → z_same n f t f' t' (2 ^ p) 0 (2 ^ n - 1) = true ∧ z_same n f t f' t' (2 ^ p) (2 ^ p) (2 ^ n - 1) = true)
theorem z_same_iff {n : Nat} {f : Nat → Nat} {t : Nat → Nat → Nat} {f' : Nat → Nat} {t' : Nat → Nat → Nat} {d e s : Nat} : z_same n f t f' t' d e s = true ↔ ∀ v, v < 2 ^ n → v &&& s = v → z_df f t d e s v d e s v n 0 0 0 = z_df f' t' d e s v d e s v n 0 0 0 := by
  unfold z_same; exact decide_eq_true_iff
theorem z_acts_iff {n : Nat} {f : Nat → Nat} {t : Nat → Nat → Nat} {f' : Nat → Nat} {t' : Nat → Nat → Nat} : z_acts n f t f' t' = true ↔ ∀ p, p < n → z_same n f t f' t' (2 ^ p) 0 (2 ^ n - 1) = true ∧ z_same n f t f' t' (2 ^ p) (2 ^ p) (2 ^ n - 1) = true := by
  unfold z_acts; exact decide_eq_true_iff
section
variable {w : x_W} {g n h h' : Nat} {f f' : Nat → Nat} {t t' : Nat → Nat → Nat}
theorem z_world1 (A : z_A w g) (G : z_gc w g n f t h) (G' : z_gc w (6 - g) n f' t' h') (S : z_sc w) {x1 x2 x3 x4 : Nat} (hx1 : x1 < 64) (hx2 : x2 < 64) (hx3 : x3 < 64) (hx4 : x4 < 64) : ∃ w1, fO_become w 16 (nI x1) (nI x2) (nI x3) (nI x4) = some w1 ∧ x_ob w 16 3 = some () ∧ z_A w1 g ∧ z_gc w1 g n f t h ∧ z_gc w1 (6 - g) n f' t' h' ∧ z_wd w1 16 x1 x2 x3 x4 ∧ z_sc w1 ∧ ∀ j, j ≠ 16 → w1[j]? = w[j]? := by
  obtain ⟨s1, s2, s3, s4, s5, s6, ⟨a, b, c, d, s7⟩, s8⟩ := S
  obtain ⟨w1, r1, r2, e⟩ := z_become s7 (nI x1) (nI x2) (nI x3) (nI x4)
  have hg := A.2
  refine ⟨w1, r1, z_ob s7, ⟨by rw [e 0 (by omega)]; exact A.1, A.2⟩, z_gc_same G (fun j h1 h2 => e j (by omega)), z_gc_same G' (fun j h1 h2 => e j (by omega)), z_wd_of r2 hx1 hx2 hx3 hx4, ?_, e⟩
  refine ⟨?_, ?_, ?_, ?_, ?_, ?_, ⟨_, _, _, _, r2⟩, ?_⟩
  · rw [e 9 (by omega), e 10 (by omega)]; exact s1
  · rw [e 11 (by omega)]; exact s2
  · rw [e 12 (by omega)]; exact s3
  · rw [e 13 (by omega)]; exact s4
  · rw [e 14 (by omega)]; exact s5
  · rw [e 15 (by omega)]; exact s6
  · rw [e 17 (by omega)]; exact s8
/-- what the class keeps through a call that only writes place 16 -/
def z_k16 (w w' : x_W) : Prop := z_sc w' ∧ ∀ j, j ≠ 16 → w'[j]? = w[j]?
theorem z_k16_A {w w' : x_W} (K : z_k16 w w') (A : z_A w g) : z_A w' g := ⟨by rw [K.2 0 (by omega)]; exact A.1, A.2⟩
theorem z_k16_G {w w' : x_W} (K : z_k16 w w') (A : z_A w g) (G : z_gc w g n f t h) : z_gc w' g n f t h := z_gc_same G (fun j h1 h2 => K.2 j (by have := A.2; omega))
theorem z_k16_G' {w w' : x_W} (K : z_k16 w w') (A : z_A w g) (G : z_gc w (6 - g) n f t h) : z_gc w' (6 - g) n f t h := z_gc_same G (fun j h1 h2 => K.2 j (by have := A.2; omega))
theorem z_k16_t {w w' w'' : x_W} (K : z_k16 w w') (K' : z_k16 w' w'') : z_k16 w w'' := ⟨K'.1, fun j hj => by rw [K'.2 j hj, K.2 j hj]⟩
theorem z_Chave (A : z_A w g) (G : z_gc w g n f t h) (G' : z_gc w (6 - g) n f' t' h') (S : z_sc w) {s d e : Nat} (hs : s < 2 ^ n) (hd : d < 64) (he : e < 64) : ∃ w', fA_haveSameOdds w 0 (nI s) (nI d) (nI e) = some (if z_same n f t f' t' d e s then 1 else 0, w') ∧ z_k16 w w' := by
  have hn := G.1.2.1
  have hs64 := z_h64 hn hs
  have ht := G.1.2.2.2.1
  have ht' := G'.1.2.2.2.1
  have h16 := z_16n hn
  have loop : ∀ k v fuel (w : x_W), v + k = s + 1 → k < fuel → z_A w g → z_gc w g n f t h → z_gc w (6 - g) n f' t' h' → z_sc w → (∀ u, u < v → u &&& s = u → z_df f t d e s u d e s u n 0 0 0 = z_df f' t' d e s u d e s u n 0 0 0) → ∃ w', fA_haveSameOdds_3 fuel w 0 (nI s) (nI d) (nI e) (nI v) = some (if z_same n f t f' t' d e s then 1 else 0, w') ∧ z_k16 w w' := by
    intro k
    induction k with
    | zero =>
      intro v fuel w hv hk A G G' S hh
      obtain ⟨m, rfl⟩ := z_suc hk
      refine ⟨w, ?_, S, fun _ _ => rfl⟩
      rw [fA_haveSameOdds_3, if_pos (nI_lt (show s < v by omega) (by omega)), if_pos (z_same_iff.mpr ?_)]
      intro u hu hus
      exact hh u (by have : u ≤ s := by rw [← hus]; exact Nat.and_le_right
                     omega) hus
    | succ k ih =>
      intro v fuel w hv hk A G G' S hh
      obtain ⟨m, rfl⟩ := z_suc hk
      rw [fA_haveSameOdds_3, if_neg (nI_nlt (show v ≤ s by omega) (by omega)), z_within_iff (show v < 64 by omega) hs64, z_inc]
      by_cases c : v &&& s = v
      · rw [if_pos c, if_neg (by decide)]
        obtain ⟨w1, p1, p2, p3, p4, p5, p6, p7, p8⟩ := z_world1 A G G' S hd he hs64 (show v < 64 by omega)
        rw [(z_A0 A).2.2.2.2.2.1, Option.bind_some, p2, Option.bind_some, p1, Option.bind_some, (z_A0 p3).2.1, Option.bind_some, (z_A0 p3).2.2.2.2.2.1, Option.bind_some, (z_G0 p4).1, Option.bind_some, z_draws (z_gc_gr p4) ht p6 p6, Option.bind_some, (z_A0 p3).2.2.1, Option.bind_some, (z_G0 p5).1, Option.bind_some, z_draws (z_gc_gr p5) ht' p6 p6, Option.bind_some]
        have B1 : z_df f t d e s v d e s v n 0 0 0 ≤ 16 ^ n := z_df_le ht n 0 0 0
        have B2 : z_df f' t' d e s v d e s v n 0 0 0 ≤ 16 ^ n := z_df_le ht' n 0 0 0
        by_cases c2 : z_df f t d e s v d e s v n 0 0 0 = z_df f' t' d e s v d e s v n 0 0 0
        · rw [if_pos (by rw [c2])]
          obtain ⟨w', r1, r2⟩ := ih (v + 1) m w1 (by omega) (by omega) p3 p4 p5 p7 (fun u hu hus => by
            by_cases q : u = v
            · subst q; exact c2
            · exact hh u (by omega) hus)
          exact ⟨w', r1, z_k16_t ⟨p7, p8⟩ r2⟩
        · rw [if_neg (fun q => c2 ((nI_eq (by omega) (by omega)).mp q)), if_neg (fun q => c2 (z_same_iff.mp q v (by omega) c))]
          exact ⟨w1, rfl, p7, p8⟩
      · rw [if_neg c, if_pos rfl]
        exact ih (v + 1) m w (by omega) (by omega) A G G' S (fun u hu hus => by
          by_cases q : u = v
          · subst q; exact absurd hus c
          · exact hh u (by omega) hus)
  unfold fA_haveSameOdds
  exact loop (s + 1) 0 x_F w (by omega) (by unfold x_F; omega) A G G' S (fun u hu _ => by omega)
theorem z_Cacts (A : z_A w g) (G : z_gc w g n f t h) (G' : z_gc w (6 - g) n f' t' h') (S : z_sc w) : ∃ w', fA_haveSameOddsOfActs w 0 = some (if z_acts n f t f' t' then 1 else 0, w') ∧ z_k16 w w' := by
  have hn := G.1.2.1
  have hpn := Nat.two_pow_pos n
  have loop : ∀ k p fuel (w : x_W), p + k = n → k < fuel → z_A w g → z_gc w g n f t h → z_gc w (6 - g) n f' t' h' → z_sc w → (∀ u, u < p → z_same n f t f' t' (2 ^ u) 0 (2 ^ n - 1) = true ∧ z_same n f t f' t' (2 ^ u) (2 ^ u) (2 ^ n - 1) = true) → ∃ w', fA_haveSameOddsOfActs_2 fuel w 0 (nI p) = some (if z_acts n f t f' t' then 1 else 0, w') ∧ z_k16 w w' := by
    intro k
    induction k with
    | zero =>
      intro p fuel w hp hk A G G' S hh
      obtain ⟨m, rfl⟩ := z_suc hk
      refine ⟨w, ?_, S, fun _ _ => rfl⟩
      rw [fA_haveSameOddsOfActs_2, (z_A0 A).2.1, Option.bind_some, (z_G0 G).2.1, Option.bind_some, (z_G0 G).2.2.2.2.2.1, Option.bind_some, if_pos (nI_le (show n ≤ p by omega) (by omega)), if_pos (z_acts_iff.mpr ?_)]
      intro u hu
      exact hh u (by omega)
    | succ k ih =>
      intro p fuel w hp hk A G G' S hh
      obtain ⟨m, rfl⟩ := z_suc hk
      have hp2 : 2 ^ p < 64 := z_h64 hn (z_p2 (show p < n by omega))
      rw [fA_haveSameOddsOfActs_2, (z_A0 A).2.1, Option.bind_some, (z_G0 G).2.1, Option.bind_some, (z_G0 G).2.2.2.2.2.1, Option.bind_some, if_neg (nI_ge (show p < n by omega) (by omega)), z_all A G, Option.bind_some, z_bit p (by omega)]
      obtain ⟨w1, r1, r2⟩ := z_Chave A G G' S (s := 2 ^ n - 1) (d := 2 ^ p) (e := 0) (by omega) hp2 (by omega)
      rw [show nI 0 = (0 : Int32) from rfl] at r1
      rw [r1, Option.bind_some]
      by_cases c : z_same n f t f' t' (2 ^ p) 0 (2 ^ n - 1) = true
      · rw [if_pos c]
        dsimp only
        rw [if_neg (by decide)]
        have A1 := z_k16_A r2 A
        have G1 := z_k16_G r2 A G
        have G1' := z_k16_G' r2 A G'
        rw [(z_A0 A1).1, Option.bind_some, z_all A1 G1, Option.bind_some]
        obtain ⟨w2, r3, r4⟩ := z_Chave A1 G1 G1' r2.1 (s := 2 ^ n - 1) (d := 2 ^ p) (e := 2 ^ p) (by omega) hp2 hp2
        rw [r3, Option.bind_some]
        by_cases c2 : z_same n f t f' t' (2 ^ p) (2 ^ p) (2 ^ n - 1) = true
        · rw [if_pos c2]
          dsimp only
          rw [if_neg (by decide), z_inc]
          obtain ⟨w', r5, r6⟩ := ih (p + 1) m w2 (by omega) (by omega) (z_k16_A r4 A1) (z_k16_G r4 A1 G1) (z_k16_G' r4 A1 G1') r4.1 (fun u hu => by
            by_cases q : u = p
            · subst q; exact ⟨c, c2⟩
            · exact hh u (by omega))
          exact ⟨w', r5, z_k16_t r2 (z_k16_t r4 r6)⟩
        · rw [if_neg c2]
          dsimp only
          rw [if_pos rfl, if_neg (fun q => c2 (z_acts_iff.mp q p (by omega)).2)]
          exact ⟨w2, rfl, z_k16_t r2 r4⟩
      · rw [if_neg c]
        dsimp only
        rw [if_pos rfl, if_neg (fun q => c (z_acts_iff.mp q p (by omega)).1)]
        exact ⟨w1, rfl, r2⟩
  unfold fA_haveSameOddsOfActs
  exact loop n 0 x_F w (by omega) (by unfold x_F; omega) A G G' S (fun u hu => by omega)
end
