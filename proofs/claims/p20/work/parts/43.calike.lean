/-! the class's alike, whole -/
def z_eqf (n : Nat) (f f' : Nat → Nat) : Bool := decide (∀ p, p < n → f p = f' p)
theorem z_eqf_iff {n : Nat} {f f' : Nat → Nat} : z_eqf n f f' = true ↔ ∀ p, p < n → f p = f' p := by
  unfold z_eqf; exact decide_eq_true_iff
/-- the places that neither hides -/
def z_both (n h h' : Nat) : Nat := (2 ^ n - 1) &&& (63 - h) &&& (63 - h')
def z_like (n n' : Nat) (f : Nat → Nat) (t : Nat → Nat → Nat) (h : Nat) (f' : Nat → Nat) (t' : Nat → Nat → Nat) (h' what : Nat) : Bool := decide (n = n') && (if what = 0 then z_eqf n f f' else if what = 1 then z_same n f t f' t' 0 0 (2 ^ n - 1) else if what = 2 then z_same n f t f' t' 0 0 (2 ^ n - 1) && z_acts n f t f' t' else z_same n f t f' t' 0 0 (z_both n h h'))
theorem z_both_lt {n h h' : Nat} : z_both n h h' < 2 ^ n := by
  have h1 : z_both n h h' ≤ 2 ^ n - 1 := Nat.le_trans Nat.and_le_left Nat.and_le_left
  have := Nat.two_pow_pos n
  omega
theorem z_bothI {n h h' : Nat} (hn : n ≤ 6) (hh : h < 64) (hh' : h' < 64) : (nI (2 ^ n - 1) &&& (nI h ^^^ (-1))) &&& (nI h' ^^^ (-1)) = nI (z_both n h h') := by
  have h1 : 2 ^ n ≤ 64 := z_pow hn
  have := Nat.two_pow_pos n
  rw [z_not _ (by omega) _ hh, z_not _ (Nat.lt_of_le_of_lt Nat.and_le_left (by omega)) _ hh']
  rfl
theorem z_asN {b : Bool} : fA_asNumber (if b = true then 1 else 0) = if b = true then 1 else 0 := by cases b <;> rfl
section
variable {w : x_W} {g n n' h h' : Nat} {f f' : Nat → Nat} {t t' : Nat → Nat → Nat}
theorem z_Cshape (A : z_A w g) (G : z_gc w g n f t h) (G' : z_gc w (6 - g) n f' t' h') : fR_hasShapeOf w (g + 1) (6 - g + 1) = some (if z_eqf n f f' = true then 1 else 0) := by
  have hn := G.1.2.1
  have hf := G.1.2.2.1
  have hf' := G'.1.2.2.1
  have loop : ∀ k p fuel, p + k = n → k < fuel → (∀ u, u < p → f u = f' u) → fR_hasShapeOf_2 w fuel (g + 1) (6 - g + 1) (nI p) = some (if z_eqf n f f' = true then 1 else 0) := by
    intro k
    induction k with
    | zero =>
      intro p fuel hp hk hh
      obtain ⟨m, rfl⟩ := z_suc hk
      rw [fR_hasShapeOf_2, (z_G0 G).2.2.2.2.2.1, Option.bind_some, if_pos (nI_le (show n ≤ p by omega) (by omega)), if_pos (z_eqf_iff.mpr fun u hu => hh u (by omega))]
    | succ k ih =>
      intro p fuel hp hk hh
      obtain ⟨m, rfl⟩ := z_suc hk
      have hlt : p < n := by omega
      have l1 := z_h64 (show p ≤ 6 by omega) (hf p hlt)
      have l2 := z_h64 (show p ≤ 6 by omega) (hf' p hlt)
      rw [fR_hasShapeOf_2, (z_G0 G).2.2.2.2.2.1, Option.bind_some, if_neg (nI_ge hlt (by omega)), (z_G0 G).2.2.2.2.2.2.1, Option.bind_some, (z_G0 G).2.2.2.2.2.2.2 p hlt, Option.bind_some, (z_G0 G').2.2.2.2.2.2.1, Option.bind_some, (z_G0 G').2.2.2.2.2.2.2 p hlt, Option.bind_some, z_inc]
      by_cases c : f p = f' p
      · rw [if_pos (by rw [c])]
        exact ih (p + 1) m (by omega) (by omega) (fun u hu => by
          by_cases q : u = p
          · subst q; exact c
          · exact hh u (by omega))
      · rw [if_neg (fun q => c ((nI_eq (by omega) (by omega)).mp q)), if_neg (fun q => c (z_eqf_iff.mp q p hlt))]
  unfold fR_hasShapeOf
  exact loop n 0 x_F (by omega) (by unfold x_F; omega) (fun u hu => by omega)
theorem z_Calike (A : z_A w g) (G : z_gc w g n f t h) (G' : z_gc w (6 - g) n' f' t' h') (S : z_sc w) {k : Nat} (hk : k < 4) : ∃ w', fA_alike w 0 (nI k) = some (if z_like n n' f t h f' t' h' k = true then 1 else 0, w') ∧ z_k16 w w' := by
  have hn := G.1.2.1
  have hn' := G'.1.2.1
  have hpn := Nat.two_pow_pos n
  unfold fA_alike
  rw [if_neg (nI_pos (by omega)), if_pos (show nI k ≤ (3 : Int32) from nI_le (b := 3) (by omega) (by omega)), (z_A0 A).2.1, Option.bind_some, (z_G0 G).2.1, Option.bind_some, (z_G0 G).2.2.2.2.2.1, Option.bind_some, (z_A0 A).2.2.1, Option.bind_some, (z_G0 G').2.1, Option.bind_some, (z_G0 G').2.2.2.2.2.1, Option.bind_some]
  by_cases c : n = n'
  · subst c
    rw [if_pos rfl]
    obtain rfl | rfl | rfl | rfl : k = 0 ∨ k = 1 ∨ k = 2 ∨ k = 3 := by omega
    · rw [if_pos (show nI 0 = (0 : Int32) from rfl), z_Cshape A G G', Option.bind_some, z_asN]
      exact ⟨w, by simp [z_like], S, fun _ _ => rfl⟩
    · rw [if_neg (by decide), if_pos (show nI 1 = (1 : Int32) from rfl), z_all A G, Option.bind_some]
      obtain ⟨w1, r1, r2⟩ := z_Chave A G G' S (s := 2 ^ n - 1) (d := 0) (e := 0) (by omega) (by omega) (by omega)
      rw [show nI 0 = (0 : Int32) from rfl] at r1
      rw [r1, Option.bind_some, z_asN]
      exact ⟨w1, by simp [z_like], r2⟩
    · rw [if_neg (by decide), if_neg (by decide), if_pos (show nI 2 = (2 : Int32) from rfl), z_all A G, Option.bind_some]
      obtain ⟨w1, r1, r2⟩ := z_Chave A G G' S (s := 2 ^ n - 1) (d := 0) (e := 0) (by omega) (by omega) (by omega)
      rw [show nI 0 = (0 : Int32) from rfl] at r1
      rw [r1, Option.bind_some]
      by_cases c1 : z_same n f t f' t' 0 0 (2 ^ n - 1) = true
      · rw [if_pos c1]
        dsimp only
        have A1 := z_k16_A r2 A
        obtain ⟨w2, r3, r4⟩ := z_Cacts A1 (z_k16_G r2 A G) (z_k16_G' r2 A G') r2.1
        rw [if_neg (by decide), (z_A0 A1).1, Option.bind_some, r3, Option.bind_some]
        by_cases c2 : z_acts n f t f' t' = true
        · rw [if_pos c2]
          dsimp only
          rw [if_neg (by decide)]
          exact ⟨w2, by simp [z_like, c1, c2]; rfl, z_k16_t r2 r4⟩
        · rw [if_neg c2]
          dsimp only
          rw [if_pos rfl]
          exact ⟨w2, by simp [z_like, c1, c2]; rfl, z_k16_t r2 r4⟩
      · rw [if_neg c1]
        dsimp only
        rw [if_pos rfl]
        exact ⟨w1, by simp [z_like, c1]; rfl, r2⟩
    · rw [if_neg (by decide), if_neg (by decide), if_neg (by decide), z_all A G, Option.bind_some, (z_G0 G).2.2.2.1, Option.bind_some, (z_G0 G').2.2.2.1, Option.bind_some, z_bothI hn (z_h64 hn G.1.2.2.2.2) (z_h64 hn G'.1.2.2.2.2)]
      obtain ⟨w1, r1, r2⟩ := z_Chave A G G' S (s := z_both n h h') (d := 0) (e := 0) z_both_lt (by omega) (by omega)
      rw [show nI 0 = (0 : Int32) from rfl] at r1
      rw [r1, Option.bind_some, z_asN]
      exact ⟨w1, by simp [z_like], r2⟩
  · rw [if_neg (fun q => c ((nI_eq (by omega) (by omega)).mp q))]
    exact ⟨w, by simp [z_like, c], S, fun _ _ => rfl⟩
theorem z_Calike0 {x : Int32} (hx : ¬ ∃ k, k < 4 ∧ x = nI k) : fA_alike w 0 x = some (-2, w) := by
  unfold fA_alike
  rcases pk_ix x (n := 4) (by omega) with q | q | ⟨j, q1, q2⟩
  · rw [if_pos q]
  · by_cases c : x < 0
    · rw [if_pos c]
    · rw [if_neg c, if_neg]
      intro c2
      rw [Int32.le_iff_toInt_le] at c2 q
      rw [nI_toInt (by omega)] at q
      rw [show (3 : Int32).toInt = 3 from rfl] at c2
      omega
  · exact absurd ⟨j, q1, q2⟩ hx
end
