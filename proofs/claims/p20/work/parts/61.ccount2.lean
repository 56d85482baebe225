/-! the class's count and of, whole -/
def z_cn (f : Nat → Nat) (n h k : Nat) : Nat := if k = 0 then n else if k = 1 then z_sum (fun p => z_pc (f p)) n else if k = 2 then h else if k = 5 then z_hc (z_cl f n h) n 0 0 h else z_pairs f n
def z_on (f : Nat → Nat) (n h p k : Nat) : Nat := if k = 0 then f p else if k = 1 then z_mk (fun j => (f j).testBit p) n else if k = 2 then z_rc f 63 p n else if k = 3 then z_bf f p (f p) else z_cl f n h p
section
variable {w : x_W} {n n' h h' : Nat} {f f' : Nat → Nat} {t t' : Nat → Nat → Nat}
theorem z_Ccount (C : z_cs w n f t h n' f' t' h') {k : Nat} (hk : k < 7) : ∃ r w', fA_count w 0 (nI k) = some (r, w') ∧ z_kC w w' ∧ (k ≠ 3 → k ≠ 4 → r = nI (z_cn f n h k)) := by
  have K0 := z_kC_0 C
  obtain ⟨g, A, G, G', S⟩ := C
  have hn := G.1.2.1
  have hg : g ≤ 5 := by have := A.2; omega
  unfold fA_count
  obtain rfl | rfl | rfl | rfl | rfl | rfl | rfl : k = 0 ∨ k = 1 ∨ k = 2 ∨ k = 3 ∨ k = 4 ∨ k = 5 ∨ k = 6 := by omega
  · rw [if_pos (show nI 0 = (0 : Int32) from rfl), (z_A0 A).2.1, Option.bind_some, (z_G0 G).2.1, Option.bind_some, (z_G0 G).2.2.2.2.2.1, Option.bind_some]
    exact ⟨_, w, rfl, K0, fun _ _ => rfl⟩
  · rw [if_neg (by decide), if_pos (show nI 1 = (1 : Int32) from rfl), (z_A0 A).2.1, Option.bind_some, (z_G0 G).2.1, Option.bind_some, (z_G0 G).2.2.2.2.1, Option.bind_some, z_howMany (z_gc_arr G), Option.bind_some]
    exact ⟨_, w, rfl, K0, fun _ _ => rfl⟩
  · rw [if_neg (by decide), if_neg (by decide), if_pos (show nI 2 = (2 : Int32) from rfl), (z_A0 A).2.1, Option.bind_some, (z_G0 G).2.2.2.1, Option.bind_some]
    exact ⟨_, w, rfl, K0, fun _ _ => rfl⟩
  · obtain ⟨w', b1, b2⟩ := z_find S hg G
    obtain ⟨⟨d, l0⟩, -⟩ := b2.1
    have A1 : z_A w' g := ⟨by rw [b2.2 0 (by omega)]; exact A.1, A.2⟩
    rw [if_neg (by decide), if_neg (by decide), if_neg (by decide), if_pos (show nI 3 = (3 : Int32) from rfl), (z_A0 A).2.2.2.2.1, Option.bind_some, (z_A0 A).2.1, Option.bind_some, (z_G0 G).2.1, Option.bind_some]
    obtain ⟨s, d', k0⟩ := S.2.1
    rw [z_ob k0, Option.bind_some, b1, Option.bind_some, (z_A0 A1).2.2.2.2.1, Option.bind_some, z_fi l0]
    exact ⟨d, w', rfl, z_kL_kC S b2, fun e => absurd rfl e⟩
  · obtain ⟨w', b1, b2⟩ := z_find S hg G
    obtain ⟨r, hr⟩ := z_sure1 b2.1 hn
    have A1 : z_A w' g := ⟨by rw [b2.2 0 (by omega)]; exact A.1, A.2⟩
    rw [if_neg (by decide), if_neg (by decide), if_neg (by decide), if_neg (by decide), if_pos (show nI 4 = (4 : Int32) from rfl), (z_A0 A).2.2.2.2.1, Option.bind_some, (z_A0 A).2.1, Option.bind_some, (z_G0 G).2.1, Option.bind_some]
    obtain ⟨s, d', k0⟩ := S.2.1
    rw [z_ob k0, Option.bind_some, b1, Option.bind_some, (z_A0 A1).2.2.2.2.1, Option.bind_some, (z_lk0 b2.1).1, Option.bind_some, hr, Option.bind_some]
    exact ⟨r, w', rfl, z_kL_kC S b2, fun _ e => absurd rfl e⟩
  · rw [if_neg (by decide), if_neg (by decide), if_neg (by decide), if_neg (by decide), if_neg (by decide), if_pos (show nI 5 = (5 : Int32) from rfl), (z_A0 A).2.1, Option.bind_some, (z_G0 G).1, Option.bind_some, z_clumps (z_gc_gr G), Option.bind_some]
    exact ⟨_, w, rfl, K0, fun _ _ => rfl⟩
  · rw [if_neg (by decide), if_neg (by decide), if_neg (by decide), if_neg (by decide), if_neg (by decide), if_neg (by decide), if_pos (show nI 6 = (6 : Int32) from rfl), (z_A0 A).1, Option.bind_some, z_Cpairs A G, Option.bind_some]
    exact ⟨_, w, rfl, K0, fun _ _ => rfl⟩
theorem z_Ccount0 {x : Int32} (hx : ¬ ∃ k, k < 7 ∧ x = nI k) : fA_count w 0 x = some (-2, w) := by
  unfold fA_count
  rw [if_neg (show ¬ x = 0 from fun e => hx ⟨0, by omega, e⟩), if_neg (show ¬ x = 1 from fun e => hx ⟨1, by omega, e⟩), if_neg (show ¬ x = 2 from fun e => hx ⟨2, by omega, e⟩), if_neg (show ¬ x = 3 from fun e => hx ⟨3, by omega, e⟩), if_neg (show ¬ x = 4 from fun e => hx ⟨4, by omega, e⟩), if_neg (show ¬ x = 5 from fun e => hx ⟨5, by omega, e⟩), if_neg (show ¬ x = 6 from fun e => hx ⟨6, by omega, e⟩)]
theorem z_Cof (C : z_cs w n f t h n' f' t' h') {p k : Nat} (hp : p < n) (hk : k < 6) : ∃ r w', fA_of w 0 (nI p) (nI k) = some (r, w') ∧ z_kC w w' ∧ (k ≠ 5 → r = nI (z_on f n h p k)) := by
  have K0 := z_kC_0 C
  obtain ⟨g, A, G, G', S⟩ := C
  have hn := G.1.2.1
  have hg : g ≤ 5 := by have := A.2; omega
  unfold fA_of
  rw [(z_A0 A).1, Option.bind_some, z_isPl A G hp, Option.bind_some, if_neg (by decide)]
  obtain rfl | rfl | rfl | rfl | rfl | rfl : k = 0 ∨ k = 1 ∨ k = 2 ∨ k = 3 ∨ k = 4 ∨ k = 5 := by omega
  · rw [if_pos (show nI 0 = (0 : Int32) from rfl), (z_A0 A).2.1, Option.bind_some, (z_G0 G).2.1, Option.bind_some, (z_G0 G).2.2.2.2.2.2.1, Option.bind_some, (z_G0 G).2.2.2.2.2.2.2 p hp, Option.bind_some]
    exact ⟨_, w, rfl, K0, fun _ => rfl⟩
  · rw [if_neg (by decide), if_pos (show nI 1 = (1 : Int32) from rfl), (z_A0 A).2.1, Option.bind_some, (z_G0 G).2.1, Option.bind_some, (z_G0 G).2.2.2.2.1, Option.bind_some, z_children (z_gc_arr G) hp, Option.bind_some]
    exact ⟨_, w, rfl, K0, fun _ => rfl⟩
  · rw [if_neg (by decide), if_neg (by decide), if_pos (show nI 2 = (2 : Int32) from rfl), (z_A0 A).2.1, Option.bind_some, (z_G0 G).2.1, Option.bind_some, (z_G0 G).2.2.2.2.1, Option.bind_some, z_after (z_gc_arr G) hp, Option.bind_some]
    exact ⟨_, w, rfl, K0, fun _ => rfl⟩
  · rw [if_neg (by decide), if_neg (by decide), if_neg (by decide), if_pos (show nI 3 = (3 : Int32) from rfl), (z_A0 A).2.1, Option.bind_some, (z_G0 G).2.1, Option.bind_some, (z_G0 G).2.2.2.2.1, Option.bind_some, z_before (z_gc_arr G) hp, Option.bind_some]
    exact ⟨_, w, rfl, K0, fun _ => rfl⟩
  · rw [if_neg (by decide), if_neg (by decide), if_neg (by decide), if_neg (by decide), if_pos (show nI 4 = (4 : Int32) from rfl), (z_A0 A).2.1, Option.bind_some, (z_G0 G).1, Option.bind_some, z_clump (z_gc_gr G) hp, Option.bind_some]
    exact ⟨_, w, rfl, K0, fun _ => rfl⟩
  · obtain ⟨w', b1, b2⟩ := z_find S hg G
    obtain ⟨r, hr⟩ := z_sure2 b2.1 hn (nI p)
    have A1 : z_A w' g := ⟨by rw [b2.2 0 (by omega)]; exact A.1, A.2⟩
    rw [if_neg (by decide), if_neg (by decide), if_neg (by decide), if_neg (by decide), if_neg (by decide), if_pos (show nI 5 = (5 : Int32) from rfl), (z_A0 A).2.2.2.2.1, Option.bind_some, (z_A0 A).2.1, Option.bind_some, (z_G0 G).2.1, Option.bind_some]
    obtain ⟨s, d', k0⟩ := S.2.1
    rw [z_ob k0, Option.bind_some, b1, Option.bind_some, (z_A0 A1).2.2.2.2.1, Option.bind_some, (z_lk0 b2.1).1, Option.bind_some, hr, Option.bind_some]
    exact ⟨r, w', rfl, z_kL_kC S b2, fun e => absurd rfl e⟩
end
