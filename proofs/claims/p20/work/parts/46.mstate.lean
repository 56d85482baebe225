/-! the reference's state, and its alike -/
def z_m18 (w : x_W) : Prop := ∃ cI pr lm, w[18]? = some (.inr (5, [.ref 19, .ref 20, .ref 21, .ref 22, .int cI, .ref 23, .ref 24, .ref 25, .int pr, .ref 26, .ref 27, .int lm]))
def z_mr (w : x_W) : Prop := z_m18 w ∧ (∃ Y, w[23]? = some (.inl (6, Y))) ∧ (∃ Y, w[24]? = some (.inl (15, Y))) ∧ (∃ Y, w[25]? = some (.inl (15, Y))) ∧ (∃ Y, w[26]? = some (.inl (6, Y))) ∧ ∃ Y, w[27]? = some (.inl (6, Y))
def z_md (w : x_W) (n : Nat) (f : Nat → Nat) (t : Nat → Nat → Nat) (h n' : Nat) (f' : Nat → Nat) (t' : Nat → Nat → Nat) (h' : Nat) : Prop := (∃ N, w[19]? = some (.inl (2, N)) ∧ N 0 = nI n ∧ N 1 = nI n') ∧ (∃ P, w[20]? = some (.inl (12, P)) ∧ (∀ p, p < n → P p = nI (f p)) ∧ ∀ p, p < n' → P (6 + p) = nI (f' p)) ∧ (∃ Q, w[21]? = some (.inl (768, Q)) ∧ (∀ p, p < n → ∀ v, v < 64 → v &&& f p = v → Q (p * 64 + v) = nI (t p v)) ∧ ∀ p, p < n' → ∀ v, v < 64 → v &&& f' p = v → Q ((6 + p) * 64 + v) = nI (t' p v)) ∧ ∃ D, w[22]? = some (.inl (2, D)) ∧ D 0 = nI h ∧ D 1 = nI h'
def z_ms (w : x_W) (n : Nat) (f : Nat → Nat) (t : Nat → Nat → Nat) (h n' : Nat) (f' : Nat → Nat) (t' : Nat → Nat → Nat) (h' : Nat) : Prop := z_ok n f t h ∧ z_ok n' f' t' h' ∧ z_mr w ∧ z_md w n f t h n' f' t' h'
section
variable {w : x_W} {n n' h h' : Nat} {f f' : Nat → Nat} {t t' : Nat → Nat → Nat}
theorem z_md_same {w' : x_W} (D : z_md w n f t h n' f' t' h') (e : ∀ k, 19 ≤ k → k ≤ 22 → w'[k]? = w[k]?) : z_md w' n f t h n' f' t' h' := by
  unfold z_md
  rw [e 19 (by omega) (by omega), e 20 (by omega) (by omega), e 21 (by omega) (by omega), e 22 (by omega) (by omega)]
  exact D
theorem z_ms_mx (M : z_ms w n f t h n' f' t' h') : z_mx w n f h := by
  obtain ⟨o, o', ⟨r1, r2, r3⟩, ⟨N, d1, d2, d3⟩, ⟨P, d4, d5, d6⟩, ⟨Q, d7, d8, d9⟩, D, e1, e2, e3⟩ := M
  exact ⟨o.1, o.2.1, o.2.2.1, o.2.2.2.2, r1, ⟨N, d1, d2⟩, ⟨P, d4, d5⟩, ⟨D, e1, e2⟩, r2⟩
theorem z_ms_mg0 (M : z_ms w n f t h n' f' t' h') : z_mg w 0 n f t := by
  obtain ⟨o, o', ⟨⟨cI, pr, lm, r1⟩, r2, r3⟩, ⟨N, d1, d2, d3⟩, ⟨P, d4, d5, d6⟩, ⟨Q, d7, d8, d9⟩, D, e1, e2, e3⟩ := M
  have hn := o.2.1
  refine ⟨o.2.1, o.2.2.1, o.2.2.2.1, by rw [z_fr r1]; rfl, by rw [z_fr r1]; rfl, by rw [z_fr r1]; rfl, ?_, ?_, ?_⟩
  · rw [z_ai d1 (by omega) (by omega), d2]
  · intro p hp
    rw [Nat.mul_zero, Nat.zero_add, z_ai d4 (by omega) (by omega), d5 p hp]
  · intro p hp v hv hs
    rw [Nat.mul_zero, Nat.zero_add, z_ai d7 (by omega) (by omega), d8 p hp v hv hs]
theorem z_ms_mg1 (M : z_ms w n f t h n' f' t' h') : z_mg w 1 n' f' t' := by
  obtain ⟨o, o', ⟨⟨cI, pr, lm, r1⟩, r2, r3⟩, ⟨N, d1, d2, d3⟩, ⟨P, d4, d5, d6⟩, ⟨Q, d7, d8, d9⟩, D, e1, e2, e3⟩ := M
  have hn := o'.2.1
  refine ⟨o'.2.1, o'.2.2.1, o'.2.2.2.1, by rw [z_fr r1]; rfl, by rw [z_fr r1]; rfl, by rw [z_fr r1]; rfl, ?_, ?_, ?_⟩
  · rw [z_ai d1 (by omega) (by omega), d3]
  · intro p hp
    rw [Nat.mul_one, z_ai d4 (by omega) (by omega), d6 p hp]
  · intro p hp v hv hs
    rw [Nat.mul_one, z_ai d7 (by omega) (by omega), d9 p hp v hv hs]
theorem z_ms_h' (M : z_ms w n f t h n' f' t' h') : x_ai w 22 1 = some (nI h') := by
  obtain ⟨o, o', ⟨⟨cI, pr, lm, r1⟩, r2, r3⟩, ⟨N, d1, d2, d3⟩, ⟨P, d4, d5, d6⟩, ⟨Q, d7, d8, d9⟩, D, e1, e2, e3⟩ := M
  rw [show (1 : Int32) = nI 1 from rfl, z_ai e1 (by omega) (by omega), e3]
theorem z_ms_n (M : z_ms w n f t h n' f' t' h') : x_fr w 18 5 0 = some 19 ∧ x_ai w 19 0 = some (nI n) ∧ x_ai w 19 1 = some (nI n') := by
  obtain ⟨o, o', ⟨⟨cI, pr, lm, r1⟩, r2, r3⟩, ⟨N, d1, d2, d3⟩, ⟨P, d4, d5, d6⟩, ⟨Q, d7, d8, d9⟩, D, e1, e2, e3⟩ := M
  refine ⟨by rw [z_fr r1]; rfl, ?_, ?_⟩
  · rw [show (0 : Int32) = nI 0 from rfl, z_ai d1 (by omega) (by omega), d2]
  · rw [show (1 : Int32) = nI 1 from rfl, z_ai d1 (by omega) (by omega), d3]
/-- what a call of the reference keeps that changes neither graph -/
def z_km (w w' : x_W) : Prop := z_mr w' ∧ (∀ k, k < 18 → w'[k]? = w[k]?) ∧ ∀ k, 19 ≤ k → k ≤ 22 → w'[k]? = w[k]?
theorem z_km_ms {w' : x_W} (K : z_km w w') (M : z_ms w n f t h n' f' t' h') : z_ms w' n f t h n' f' t' h' := ⟨M.1, M.2.1, K.1, z_md_same M.2.2.2 K.2.2⟩
theorem z_km_0 (M : z_ms w n f t h n' f' t' h') : z_km w w := ⟨M.2.2.1, fun _ _ => rfl, fun _ _ _ => rfl⟩
theorem z_km_t {w' w'' : x_W} (K : z_km w w') (K' : z_km w' w'') : z_km w w'' := ⟨K'.1, fun k hk => by rw [K'.2.1 k hk, K.2.1 k hk], fun k h1 h2 => by rw [K'.2.2 k h1 h2, K.2.2 k h1 h2]⟩
theorem z_MsameShape (M : z_ms w n f t h n f' t' h') : ∃ w', fM_sameShape w 18 = some (if z_eqf n f f' = true then 1 else 0, w') ∧ z_km w w' := by
  have loop : ∀ k v fuel (w : x_W), v + k = 6 → k < fuel → z_ms w n f t h n f' t' h' → (∃ Y, w[26]? = some (.inl (6, Y)) ∧ ∀ p, p < v → p < n → Y p = nI (f' p)) → ∃ w', fM_sameShape_2 fuel w 18 (nI v) = some (if z_eqf n f f' = true then 1 else 0, w') ∧ z_km w w' := by
    intro k
    induction k with
    | zero =>
      intro v fuel w hv hk M hY
      obtain ⟨m, rfl⟩ := z_suc hk
      obtain ⟨Y, y1, y2⟩ := hY
      refine ⟨w, ?_, z_km_0 M⟩
      obtain ⟨m0, m1, -⟩ := z_X0 (z_ms_mx M)
      have hn := M.1.2.1
      have hf := M.1.2.2.1
      have hf' := M.2.1.2.2.1
      obtain ⟨o, o', ⟨⟨cI, pr, lm, r1⟩, r2, r3⟩, ⟨N, d1, d2, d3⟩, ⟨P, d4, d5, d6⟩, -⟩ := M
      have U : z_ar w 26 n f' := fun p hp => ⟨z_h64 (show p ≤ 6 by omega) (hf' p hp), by rw [z_ai y1 (by omega) (by omega), y2 p (by omega) hp]⟩
      have F : z_ar w 20 n f := fun p hp => ⟨z_h64 (show p ≤ 6 by omega) (hf p hp), by rw [z_ai d4 (by omega) (by omega), d5 p hp]⟩
      rw [fM_sameShape_2, if_pos (show (6 : Int32) ≤ nI v from nI_le (a := 6) (by omega) (by omega)), m0, Option.bind_some, m1, Option.bind_some, z_Mshape U F hn (by rw [z_fr r1]; rfl) (by rw [z_fr r1]; rfl), Option.bind_some, z_shp_eq hf' hf]
      have e : z_eqf n f' f = z_eqf n f f' := by
        rw [Bool.eq_iff_iff, z_eqf_iff, z_eqf_iff]
        exact ⟨fun q p hp => (q p hp).symm, fun q p hp => (q p hp).symm⟩
      rw [e]
      unfold z_b01
      cases z_eqf n f f' <;> rfl
    | succ k ih =>
      intro v fuel w hv hk M hY
      obtain ⟨m, rfl⟩ := z_suc hk
      obtain ⟨Y, y1, y2⟩ := hY
      have M' := M
      obtain ⟨o, o', ⟨⟨cI, pr, lm, r1⟩, r2, r3, r4, r5, r6⟩, ⟨N, d1, d2, d3⟩, ⟨P, d4, d5, d6⟩, -⟩ := M
      rw [fM_sameShape_2, if_neg (show ¬ (6 : Int32) ≤ nI v from nI_ge (b := 6) (by omega) (by omega)), z_fr r1]
      show ∃ w', ((some 26).bind _ = _) ∧ _
      rw [Option.bind_some, z_fr r1]
      show ∃ w', ((some 20).bind _ = _) ∧ _
      rw [Option.bind_some, show (6 : Int32) = nI 6 from rfl, nI_add, z_ai d4 (by omega) (by omega), Option.bind_some, z_pa y1 (by omega) (by omega), Option.bind_some, z_inc]
      have e : ∀ k, k ≠ 26 → (w.set 26 (.inl (6, upd Y v (P (6 + v)))))[k]? = w[k]? := fun k hk => z_else (Ne.symm hk)
      have K : z_km w (w.set 26 (.inl (6, upd Y v (P (6 + v))))) := by
        refine ⟨⟨⟨cI, pr, lm, by rw [e 18 (by omega)]; exact r1⟩, by rw [e 23 (by omega)]; exact r2, by rw [e 24 (by omega)]; exact r3, by rw [e 25 (by omega)]; exact r4, ⟨_, z_self y1⟩, by rw [e 27 (by omega)]; exact r6⟩, fun k hk => e k (by omega), fun k h1 h2 => e k (by omega)⟩
      obtain ⟨w', q1, q2⟩ := ih (v + 1) m _ (by omega) (by omega) (z_km_ms K M') ⟨_, z_self y1, fun p hp hpn => by
        by_cases q : p = v
        · subst q; rw [z_upd_s, d6 p hpn]
        · rw [z_upd_n q, y2 p (by omega) hpn]⟩
      exact ⟨w', q1, z_km_t K q2⟩
  unfold fM_sameShape
  obtain ⟨Y, y1⟩ := M.2.2.1.2.2.2.2.1
  exact loop 6 0 x_F w (by omega) (by unfold x_F; omega) M ⟨Y, y1, fun p hp => by omega⟩
theorem z_Malike (M : z_ms w n f t h n' f' t' h') {k : Nat} (hk : k < 4) : ∃ w', fM_alike w 18 (nI k) = some (if z_like n n' f t h f' t' h' k = true then 1 else 0, w') ∧ z_km w w' := by
  have hn := M.1.2.1
  have hn' := M.2.1.2.1
  obtain ⟨p1, p2, p3⟩ := z_ms_n M
  unfold fM_alike
  rw [show (3 : Int32) = nI 3 from rfl, z_isIn1 (show k ≤ 3 by omega) (by omega), if_neg (by decide), p1, Option.bind_some, p2, Option.bind_some, p3, Option.bind_some]
  by_cases c : n = n'
  · subst c
    rw [if_pos rfl]
    have s0 := z_MsameOdds (z_ms_mx M) (z_ms_mg0 M) (z_ms_mg1 M) (d := 0) (e := 0) (by omega) (by omega)
    rw [show nI 0 = (0 : Int32) from rfl] at s0
    obtain rfl | rfl | rfl | rfl : k = 0 ∨ k = 1 ∨ k = 2 ∨ k = 3 := by omega
    · obtain ⟨w', q1, q2⟩ := z_MsameShape M
      rw [if_pos (show nI 0 = (0 : Int32) from rfl), q1, Option.bind_some]
      refine ⟨w', ?_, q2⟩
      unfold z_like
      cases z_eqf n f f' <;> simp <;> rfl
    · rw [if_neg (by decide), if_pos (show nI 1 = (1 : Int32) from rfl), s0, Option.bind_some]
      refine ⟨w, ?_, z_km_0 M⟩
      unfold z_like
      cases z_same n f t f' t' 0 0 (2 ^ n - 1) <;> simp <;> rfl
    · rw [if_neg (by decide), if_neg (by decide), if_pos (show nI 2 = (2 : Int32) from rfl), z_MsameWhatever (z_ms_mx M) (z_ms_mg0 M) (z_ms_mg1 M), Option.bind_some]
      refine ⟨w, ?_, z_km_0 M⟩
      unfold z_like
      cases z_same n f t f' t' 0 0 (2 ^ n - 1) <;> cases z_acts n f t f' t' <;> simp <;> rfl
    · rw [if_neg (by decide), if_neg (by decide), if_neg (by decide), z_MsameSeen (z_ms_mx M) (z_ms_mg0 M) (z_ms_mg1 M) (z_ms_h' M) (z_h64 hn M.2.1.2.2.2.2), Option.bind_some]
      refine ⟨w, ?_, z_km_0 M⟩
      unfold z_like
      cases z_same n f t f' t' 0 0 (z_both n h h') <;> simp <;> rfl
  · rw [if_neg (fun q => c ((nI_eq (by omega) (by omega)).mp q))]
    exact ⟨w, by simp [z_like, c], z_km_0 M⟩
theorem z_Malike0 {x : Int32} (hx : ¬ ∃ k, k < 4 ∧ x = nI k) : fM_alike w 18 x = some (-2, w) := by
  unfold fM_alike
  rw [show (3 : Int32) = nI 3 from rfl, z_isIn0 (by omega) hx, if_pos rfl]
end
