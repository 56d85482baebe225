/-! both sides together: parted, parting, ways, tells, telling -/
def z_both3 (a : Option Int32) (w : x_W) (m : Option (Int32 × x_W)) : Prop := ∃ r w2, a = some r ∧ x_ob w 18 5 = some () ∧ m = some (r, w2) ∧ z_rel w2
section
variable {w w' : x_W} {n n' h h' : Nat} {f f' : Nat → Nat} {t t' : Nat → Nat → Nat}
theorem z_kM_km (M : z_ms w n f t h n' f' t' h') (X : z_mx w' n f h) (K : z_kM w w') : z_km w w' := z_kept M X (fun k h1 h2 => K k h1 h2)
theorem z_rel_M (C : z_cs w n f t h n' f' t' h') (M : z_ms w n f t h n' f' t' h') (K : z_km w w') : z_rel w' := ⟨_, _, _, _, _, _, _, _, z_cs_far C K.2.1, z_km_ms K M⟩
theorem z_Lparted (R : z_rel w) (a b z : Int32) : z_both3 (fA_parted w 0 a b z) w (fM_parted w 18 a b z) := by
  obtain ⟨n, f, t, h, n', f', t', h', C, M⟩ := R
  have C0 := C
  obtain ⟨g, A, G, G', S⟩ := C
  by_cases c : z_Vw n a b z
  · obtain ⟨i, j, s, p1, p2, p3, p4, p5, p6, rfl, rfl, rfl⟩ := c
    obtain ⟨w2, b1, b2, b3⟩ := z_Mparted (z_ms_mx M) p1 p2 p3 p4 p5 p6
    exact ⟨_, w2, z_Cparted A G p1 p2 p3 p4 p5 p6, z_ms_ob M, b1, z_rel_M C0 M (z_kM_km M b2 b3)⟩
  · obtain ⟨w2, b1, b2, b3⟩ := z_Mparted0 (z_ms_mx M) c
    exact ⟨_, w2, z_Cparted0 A G c, z_ms_ob M, b1, z_rel_M C0 M (z_kM_km M b2 b3)⟩
theorem z_Lways (R : z_rel w) (a b z : Int32) : z_both3 (fA_ways w 0 a b z) w (fM_ways w 18 a b z) := by
  obtain ⟨n, f, t, h, n', f', t', h', C, M⟩ := R
  have C0 := C
  obtain ⟨g, A, G, G', S⟩ := C
  by_cases c : z_Vw n a b z
  · obtain ⟨i, j, s, p1, p2, p3, p4, p5, p6, rfl, rfl, rfl⟩ := c
    obtain ⟨w2, b1, b2, b3⟩ := z_Mwys (z_ms_mx M) p1 p2 p3 p4 p5 p6
    exact ⟨_, w2, z_Cways A G p1 p2 p3 p4 p5 p6, z_ms_ob M, b1, z_rel_M C0 M (z_kM_km M b2 b3)⟩
  · obtain ⟨w2, b1, b2, b3⟩ := z_Mwys0 (z_ms_mx M) c
    exact ⟨_, w2, z_Cways0 A G c, z_ms_ob M, b1, z_rel_M C0 M (z_kM_km M b2 b3)⟩
theorem z_Lparting (R : z_rel w) (a b : Int32) : z_both3 (fA_parting w 0 a b) w (fM_parting w 18 a b) := by
  obtain ⟨n, f, t, h, n', f', t', h', C, M⟩ := R
  have C0 := C
  obtain ⟨g, A, G, G', S⟩ := C
  by_cases c : z_Vp n a b
  · obtain ⟨i, j, p1, p2, p3, rfl, rfl⟩ := c
    obtain ⟨w2, b1, b2, b3⟩ := z_Mparting (z_ms_mx M) p1 p2 p3
    exact ⟨_, w2, z_Cparting A G p1 p2 p3, z_ms_ob M, b1, z_rel_M C0 M (z_kM_km M b2 b3)⟩
  · obtain ⟨w2, b1, b2, b3⟩ := z_Mparting0 (z_ms_mx M) c
    exact ⟨_, w2, z_Cparting0 A G c, z_ms_ob M, b1, z_rel_M C0 M (z_kM_km M b2 b3)⟩
theorem z_kC_c (h1 : z_sc w') (h2 : ∀ j, j ≠ 9 → j ≠ 10 → w'[j]? = w[j]?) : z_kC w w' := ⟨h1, fun j hj => h2 j (by omega) (by omega)⟩
theorem z_Ltelling (R : z_rel w) (what a b : Int32) : z_both2 (fA_telling w 0 what a b) (fun w1 => fM_telling w1 18 what a b) := by
  obtain ⟨n, f, t, h, n', f', t', h', C, M⟩ := R
  have C0 := C
  obtain ⟨g, A, G, G', S⟩ := C
  by_cases c : z_Vt n h what a b
  · obtain ⟨k, i, j, p0, p1, p2, p3, p4, p5, rfl, rfl, rfl⟩ := c
    obtain ⟨w1, a1, a2, a3⟩ := z_Ctelling A G S p0 p1 p2 p3 p4 p5
    have K := z_kC_c a2 a3
    have M1 := z_ms_far M (fun j hj => K.2 j (Or.inr hj))
    obtain ⟨w2, b1, b2, b3⟩ := z_Mtelling (z_ms_mx M1) p0 p1 p2 p3 p4 p5
    exact ⟨_, w1, w2, a1, z_ms_ob M1, b1, z_rel_M (z_kC_cs K C0) M1 (z_kM_km M1 b2 b3)⟩
  · exact z_b0 C0 M (z_Ctelling0 A G c) (z_Mtelling0 (z_ms_mx M) c)
/-- tells: both answer; they differ only where an instrument is asked of a set not of one place -/
theorem z_Ltells (R : z_rel w) (what a b set : Int32) : ∃ r1 w1 r2 w2, fA_tells w 0 what a b set = some (r1, w1) ∧ x_ob w1 18 5 = some () ∧ fM_tells w1 18 what a b set = some (r2, w2) ∧ z_rel w2 ∧ (¬ what = 2 → r1 = r2) := by
  obtain ⟨n, f, t, h, n', f', t', h', C, M⟩ := R
  have C0 := C
  obtain ⟨g, A, G, G', S⟩ := C
  by_cases c : z_Vs n h what a b set
  · obtain ⟨k, i, j, s, p0, p1, p2, p3, p4, p5, p6, p7, p8, p9, rfl, rfl, rfl, rfl⟩ := c
    obtain ⟨w1, a1, a2, a3⟩ := z_Ctells A G S p0 p1 p2 p3 p4 p5 p6 p7 p8 p9
    have K := z_kC_c a2 a3
    have M1 := z_ms_far M (fun j hj => K.2 j (Or.inr hj))
    obtain ⟨w2, b1, b2, b3⟩ := z_Mtells (z_ms_mx M1) p0 p1 p2 p3 p4 p5 p6 p7 p8 p9
    refine ⟨_, w1, _, w2, a1, z_ms_ob M1, b1, z_rel_M (z_kC_cs K C0) M1 (z_kM_km M1 b2 b3), fun hk => ?_⟩
    rw [if_neg (show ¬ (k = 2 ∧ z_pc s ≠ 1) from fun e => hk (by rw [e.1]; rfl))]
  · exact ⟨_, w, _, w, z_Ctells0 A G c, z_ms_ob M, z_Mtells0 (z_ms_mx M) c, ⟨_, _, _, _, _, _, _, _, C0, M⟩, fun _ => rfl⟩
end
