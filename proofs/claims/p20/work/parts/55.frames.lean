/-! what the reference's asking calls keep -/
section
variable {w w' : x_W} {n n' h h' : Nat} {f f' : Nat → Nat} {t t' : Nat → Nat → Nat}
theorem z_kept (M : z_ms w n f t h n' f' t' h') (X : z_mx w' n f h) (e : ∀ k, k ≠ 18 → k ≠ 23 → w'[k]? = w[k]?) : z_km w w' := by
  obtain ⟨r1, r2, r3, r4, r5, r6⟩ := M.2.2.1
  obtain ⟨a1, a2, a3, a4, a5, a6, a7, a8, a9⟩ := X
  exact ⟨⟨a5, a9, by rw [e 24 (by omega) (by omega)]; exact r3, by rw [e 25 (by omega) (by omega)]; exact r4, by rw [e 26 (by omega) (by omega)]; exact r5, by rw [e 27 (by omega) (by omega)]; exact r6⟩, fun k hk => e k (by omega) (by omega), fun k h1 h2 => e k (by omega) (by omega)⟩
theorem z_kc_km (M : z_ms w n f t h n' f' t' h') (K : z_kc w w' n f h) : z_km w w' := z_kept M K.1 (fun k h1 _ => K.2 k h1)
theorem z_k23_km (M : z_ms w n f t h n' f' t' h') (K : z_k23 w w' n f h) : z_km w w' := z_kept M K.1 (fun k _ h2 => K.2.2 k h2)
/-- what the class's asking calls keep -/
def z_kC (w w' : x_W) : Prop := z_sc w' ∧ ∀ j, j < 9 ∨ 18 ≤ j → w'[j]? = w[j]?
theorem z_kC_cs (K : z_kC w w') (C : z_cs w n f t h n' f' t' h') : z_cs w' n f t h n' f' t' h' := by
  obtain ⟨g, A, G, G', S⟩ := C
  have hg := A.2
  exact ⟨g, ⟨by rw [K.2 0 (by omega)]; exact A.1, A.2⟩, z_gc_same G (fun j q1 q2 => K.2 j (by omega)), z_gc_same G' (fun j q1 q2 => K.2 j (by omega)), K.1⟩
theorem z_kC_0 (C : z_cs w n f t h n' f' t' h') : z_kC w w := by
  obtain ⟨g, A, G, G', S⟩ := C
  exact ⟨S, fun _ _ => rfl⟩
theorem z_k16_kC (K : z_k16 w w') : z_kC w w' := ⟨K.1, fun j hj => K.2 j (by omega)⟩
/-- a call of the class keeps the reference's state, and the other way -/
theorem z_ms_far (M : z_ms w n f t h n' f' t' h') (e : ∀ j, 18 ≤ j → w'[j]? = w[j]?) : z_ms w' n f t h n' f' t' h' := by
  refine ⟨M.1, M.2.1, ?_, z_md_same M.2.2.2 (fun k h1 _ => e k (by omega))⟩
  obtain ⟨r1, r2, r3, r4, r5, r6⟩ := M.2.2.1
  unfold z_mr z_m18
  rw [e 18 (by omega), e 23 (by omega), e 24 (by omega), e 25 (by omega), e 26 (by omega), e 27 (by omega)]
  exact ⟨r1, r2, r3, r4, r5, r6⟩
theorem z_cs_far (C : z_cs w n f t h n' f' t' h') (e : ∀ j, j < 18 → w'[j]? = w[j]?) : z_cs w' n f t h n' f' t' h' := by
  obtain ⟨g, A, G, G', S⟩ := C
  have hg := A.2
  exact ⟨g, ⟨by rw [e 0 (by omega)]; exact A.1, A.2⟩, z_gc_same G (fun j q1 q2 => e j (by omega)), z_gc_same G' (fun j q1 q2 => e j (by omega)), z_sc_same S (fun j q1 q2 => e j (by omega))⟩
/-- the relation at the law's loop -/
def z_rel (w : x_W) : Prop := ∃ n f t h n' f' t' h', z_cs w n f t h n' f' t' h' ∧ z_ms w n f t h n' f' t' h'
theorem z_rel_of {w1 w2 : x_W} (C : z_cs w1 n f t h n' f' t' h') (M : z_ms w n f t h n' f' t' h') (e1 : ∀ j, 18 ≤ j → w1[j]? = w[j]?) (M2 : z_ms w2 n f t h n' f' t' h') (e2 : ∀ j, j < 18 → w2[j]? = w1[j]?) : z_rel w2 := ⟨n, f, t, h, n', f', t', h', z_cs_far C e2, M2⟩
end
