/-! both sides together: a call answers alike, and the relation holds again -/
def z_both2 (a : Option (Int32 × x_W)) (m : x_W → Option (Int32 × x_W)) : Prop := ∃ r w1 w2, a = some (r, w1) ∧ x_ob w1 18 5 = some () ∧ m w1 = some (r, w2) ∧ z_rel w2
section
variable {w : x_W} {n n' h h' : Nat} {f f' : Nat → Nat} {t t' : Nat → Nat → Nat}
theorem z_ms_ob (M : z_ms w n f t h n' f' t' h') : x_ob w 18 5 = some () := (z_X0 (z_ms_mx M)).1
/-- both refuse, or answer without a change -/
theorem z_b0 {a : Option (Int32 × x_W)} {m : x_W → Option (Int32 × x_W)} {r : Int32} (C : z_cs w n f t h n' f' t' h') (M : z_ms w n f t h n' f' t' h') (h1 : a = some (r, w)) (h2 : m w = some (r, w)) : z_both2 a m := ⟨r, w, w, h1, z_ms_ob M, h2, n, f, t, h, n', f', t', h', C, M⟩
theorem z_Lbegin (R : z_rel w) (x : Int32) : z_both2 (fA_begin w 0 x) (fun w1 => fM_begin w1 18 x) := by
  obtain ⟨n, f, t, h, n', f', t', h', C, M⟩ := R
  by_cases c : ∃ k, 1 ≤ k ∧ k ≤ 6 ∧ x = nI k
  · obtain ⟨k, k1, k6, rfl⟩ := c
    obtain ⟨w1, a1, a2, a3⟩ := z_Cbegin C k1 k6
    have M1 := z_ms_far M a3
    obtain ⟨w2, b1, b2, b3⟩ := z_Mbegin M1 k1 k6
    exact ⟨_, w1, w2, a1, z_ms_ob M1, b1, _, _, _, _, _, _, _, _, z_cs_far a2 b3, b2⟩
  · exact z_b0 C M (z_Cbegin0 c) (z_Mbegin0 c)
theorem z_Lparents (R : z_rel w) (x y : Int32) : z_both2 (fA_parents w 0 x y) (fun w1 => fM_parents w1 18 x y) := by
  obtain ⟨n, f, t, h, n', f', t', h', C, M⟩ := R
  by_cases c : ∃ p s, p < n ∧ s < 2 ^ p ∧ x = nI p ∧ y = nI s
  · obtain ⟨p, s, hp, hs, rfl, rfl⟩ := c
    obtain ⟨w1, a1, a2, a3⟩ := z_Cparents C hp hs
    have M1 := z_ms_far M a3
    obtain ⟨w2, b1, b2, b3⟩ := z_Mparents M1 hp hs
    exact ⟨_, w1, w2, a1, z_ms_ob M1, b1, _, _, _, _, _, _, _, _, z_cs_far a2 b3, b2⟩
  · exact z_b0 C M (z_Cparents0 C c) (z_Mparents0 M c)
theorem z_Lweight (R : z_rel w) (x y z : Int32) : z_both2 (fA_weight w 0 x y z) (fun w1 => fM_weight w1 18 x y z) := by
  obtain ⟨n, f, t, h, n', f', t', h', C, M⟩ := R
  by_cases c : ∃ p v k, p < n ∧ v &&& f p = v ∧ k ≤ 16 ∧ x = nI p ∧ y = nI v ∧ z = nI k
  · obtain ⟨p, v, k, hp, hv, hk, rfl, rfl, rfl⟩ := c
    obtain ⟨w1, a1, a2, a3⟩ := z_Cweight C hp hv hk
    have M1 := z_ms_far M a3
    obtain ⟨w2, b1, b2, b3⟩ := z_Mweight M1 hp hv hk
    exact ⟨_, w1, w2, a1, z_ms_ob M1, b1, _, _, _, _, _, _, _, _, z_cs_far a2 b3, b2⟩
  · exact z_b0 C M (z_Cweight0 C c) (z_Mweight0 M c)
theorem z_Lhide (R : z_rel w) (x b : Int32) : z_both2 (fA_hide w 0 x b) (fun w1 => fM_hide w1 18 x b) := by
  obtain ⟨n, f, t, h, n', f', t', h', C, M⟩ := R
  by_cases c : ∃ k, k < n ∧ x = nI k
  · obtain ⟨p, hp, rfl⟩ := c
    obtain ⟨w1, a1, a2, a3⟩ := z_Chide C hp b
    have M1 := z_ms_far M a3
    obtain ⟨w2, b1, b2, b3⟩ := z_Mhide M1 hp b
    exact ⟨_, w1, w2, a1, z_ms_ob M1, b1, _, _, _, _, _, _, _, _, z_cs_far a2 b3, b2⟩
  · exact z_b0 C M (z_Chide0 C b c) (z_Mhide0 M b c)
theorem z_Lswap (R : z_rel w) : z_both2 (fA_swap w 0) (fun w1 => fM_swap w1 18) := by
  obtain ⟨n, f, t, h, n', f', t', h', C, M⟩ := R
  obtain ⟨w1, a1, a2, a3⟩ := z_Cswap C
  have M1 := z_ms_far M a3
  obtain ⟨w2, b1, b2, b3⟩ := z_Mswap M1
  exact ⟨_, w1, w2, a1, z_ms_ob M1, b1, _, _, _, _, _, _, _, _, z_cs_far a2 b3, b2⟩
theorem z_Lkeep (R : z_rel w) : z_both2 (fA_keep w 0) (fun w1 => fM_keep w1 18) := by
  obtain ⟨n, f, t, h, n', f', t', h', C, M⟩ := R
  obtain ⟨w1, a1, a2, a3⟩ := z_Ckeep C
  have M1 := z_ms_far M a3
  obtain ⟨w2, b1, b2, b3⟩ := z_Mkeep M1
  exact ⟨_, w1, w2, a1, z_ms_ob M1, b1, _, _, _, _, _, _, _, _, z_cs_far a2 b3, b2⟩
theorem z_Lalike (R : z_rel w) (x : Int32) : z_both2 (fA_alike w 0 x) (fun w1 => fM_alike w1 18 x) := by
  obtain ⟨n, f, t, h, n', f', t', h', C, M⟩ := R
  by_cases c : ∃ k, k < 4 ∧ x = nI k
  · obtain ⟨k, hk, rfl⟩ := c
    have C0 := C
    obtain ⟨g, A, G, G', S⟩ := C
    obtain ⟨w1, a1, a2⟩ := z_Calike A G G' S hk
    have M1 := z_ms_far M (fun j hj => (z_k16_kC a2).2 j (Or.inr hj))
    obtain ⟨w2, b1, b2⟩ := z_Malike M1 hk
    exact ⟨_, w1, w2, a1, z_ms_ob M1, b1, _, _, _, _, _, _, _, _, z_cs_far (z_kC_cs (z_k16_kC a2) C0) b2.2.1, z_km_ms b2 M1⟩
  · exact z_b0 C M (z_Calike0 c) (z_Malike0 c)
/-- the reference only reads -/
def z_both1 (a : Option (Int32 × x_W)) (m : x_W → Option Int32) : Prop := ∃ r w1, a = some (r, w1) ∧ x_ob w1 18 5 = some () ∧ m w1 = some r ∧ z_rel w1
theorem z_kC_w {w' : x_W} (h1 : z_sc w') (h2 : ∀ j, j ≠ 16 → j ≠ 17 → w'[j]? = w[j]?) : z_kC w w' := ⟨h1, fun j hj => h2 j (by omega) (by omega)⟩
theorem z_Lodds (R : z_rel w) (q v d e u r part : Int32) : z_both1 (fA_odds w 0 q v d e u r part) (fun w1 => fM_odds w1 18 q v d e u r part) := by
  obtain ⟨n, f, t, h, n', f', t', h', C, M⟩ := R
  have C0 := C
  obtain ⟨g, A, G, G', S⟩ := C
  by_cases c : z_Vo n q v d e u r part
  · obtain ⟨⟨_, _, p1, p2, rfl, rfl⟩, ⟨_, _, p3, p4, rfl, rfl⟩, ⟨_, _, p5, p6, rfl, rfl⟩, ⟨_, p7, rfl⟩⟩ := c
    obtain ⟨w1, a1, a2, a3⟩ := z_Codds A G S p1 p2 p3 p4 p5 p6 p7
    have K := z_kC_w a2 a3
    have M1 := z_ms_far M (fun j hj => K.2 j (Or.inr hj))
    exact ⟨_, w1, a1, z_ms_ob M1, z_Modds (z_ms_mx M1) (z_ms_mg0 M1) p1 p2 p3 p4 p5 p6 p7, _, _, _, _, _, _, _, _, z_kC_cs K C0, M1⟩
  · exact ⟨_, w, z_Codds0 A G c, z_ms_ob M, z_Modds0 (z_ms_mx M) c, _, _, _, _, _, _, _, _, C0, M⟩
theorem z_Lwould (R : z_rel w) (q v d e u r part : Int32) : z_both1 (fA_would w 0 q v d e u r part) (fun w1 => fM_would w1 18 q v d e u r part) := by
  obtain ⟨n, f, t, h, n', f', t', h', C, M⟩ := R
  have C0 := C
  obtain ⟨g, A, G, G', S⟩ := C
  by_cases c : z_Vo n q v d e u r part
  · obtain ⟨⟨_, _, p1, p2, rfl, rfl⟩, ⟨_, _, p3, p4, rfl, rfl⟩, ⟨_, _, p5, p6, rfl, rfl⟩, ⟨_, p7, rfl⟩⟩ := c
    obtain ⟨w1, a1, a2, a3⟩ := z_Cwould A G S p1 p2 p3 p4 p5 p6 p7
    have K := z_kC_w a2 a3
    have M1 := z_ms_far M (fun j hj => K.2 j (Or.inr hj))
    exact ⟨_, w1, a1, z_ms_ob M1, z_Mwould (z_ms_mx M1) (z_ms_mg0 M1) p1 p2 p3 p4 p5 p6 p7, _, _, _, _, _, _, _, _, z_kC_cs K C0, M1⟩
  · exact ⟨_, w, z_Cwould0 A G c, z_ms_ob M, z_Mwould0 (z_ms_mx M) c, _, _, _, _, _, _, _, _, C0, M⟩
theorem z_Leffect (R : z_rel w) (a b : Int32) : z_both1 (fA_effect w 0 a b) (fun w1 => fM_effect w1 18 a b) := by
  obtain ⟨n, f, t, h, n', f', t', h', C, M⟩ := R
  have C0 := C
  obtain ⟨g, A, G, G', S⟩ := C
  by_cases c : z_Vp n a b
  · obtain ⟨i, j, p1, p2, p3, rfl, rfl⟩ := c
    obtain ⟨w1, a1, a2, a3⟩ := z_Ceffect A G S p1 p2 p3
    have K := z_kC_w a2 a3
    have M1 := z_ms_far M (fun j hj => K.2 j (Or.inr hj))
    exact ⟨_, w1, a1, z_ms_ob M1, z_Meffect (z_ms_mx M1) (z_ms_mg0 M1) p1 p2 p3, _, _, _, _, _, _, _, _, z_kC_cs K C0, M1⟩
  · exact ⟨_, w, z_Ceffect0 A G c, z_ms_ob M, z_Meffect0 (z_ms_mx M) c, _, _, _, _, _, _, _, _, C0, M⟩
theorem z_Lswayed (R : z_rel w) (a b : Int32) : z_both1 (fA_swayed w 0 a b) (fun w1 => fM_swayed w1 18 a b) := by
  obtain ⟨n, f, t, h, n', f', t', h', C, M⟩ := R
  have C0 := C
  obtain ⟨g, A, G, G', S⟩ := C
  by_cases c : z_Vp n a b
  · obtain ⟨i, j, p1, p2, p3, rfl, rfl⟩ := c
    obtain ⟨w1, a1, a2, a3⟩ := z_Cswayed A G S p1 p2 p3
    have K := z_kC_w a2 a3
    have M1 := z_ms_far M (fun j hj => K.2 j (Or.inr hj))
    exact ⟨_, w1, a1, z_ms_ob M1, z_Mswayed (z_ms_mx M1) (z_ms_mg0 M1) p1 p2 p3, _, _, _, _, _, _, _, _, z_kC_cs K C0, M1⟩
  · exact ⟨_, w, z_Cswayed0 A G c, z_ms_ob M, z_Mswayed0 (z_ms_mx M) c, _, _, _, _, _, _, _, _, C0, M⟩
/-- the class only reads -/
theorem z_Ltold (R : z_rel w) (x : Int32) : ∃ r w2, fA_told w 0 x = some r ∧ x_ob w 18 5 = some () ∧ fM_told w 18 x = some (r, w2) ∧ z_rel w2 := by
  obtain ⟨n, f, t, h, n', f', t', h', C, M⟩ := R
  have C0 := C
  obtain ⟨g, A, G, G', S⟩ := C
  by_cases c : ∃ k, k < n ∧ h.testBit k = false ∧ x = nI k
  · obtain ⟨p, hp, hh, rfl⟩ := c
    obtain ⟨w2, b1, b2⟩ := z_Mtold (z_ms_mx M) hp hh
    have K := z_kc_km M b2
    exact ⟨_, w2, z_Ctold A G hp hh, z_ms_ob M, b1, _, _, _, _, _, _, _, _, z_cs_far C0 K.2.1, z_km_ms K M⟩
  · exact ⟨_, w, z_Ctold0 A G c, z_ms_ob M, z_Mtold0 (z_ms_mx M) c, _, _, _, _, _, _, _, _, C0, M⟩
end
