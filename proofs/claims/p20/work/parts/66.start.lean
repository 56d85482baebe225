/-! the two constructors: the world in which the script's calls begin -/
def z_w5 (a0 : x_C) (F U : Nat → Int32) : x_W := [a0, .inr (2, [.ref 2, .ref 4, .int 0]), .inr (1, [.int 1, .ref 3]), .inl (6, F), .inl (192, U)]
def z_w9 (a0 a1 a2 a3 a4 : x_C) (F U : Nat → Int32) : x_W := [a0, a1, a2, a3, a4, .inr (2, [.ref 6, .ref 8, .int 0]), .inr (1, [.int 1, .ref 7]), .inl (6, F), .inl (192, U)]
theorem z_bnn {α β : Type} {o : Option α} {a : α} {g : α → Option β} {r : Option β} (h : o = some a) (h2 : g a = r) : o.bind g = r := by rw [h, Option.bind_some]; exact h2
theorem z_gi (k : x_W → Nat → Int32 → Option x_W) (a0 : x_C) : ((fR_init (([a0, .inr (2, [.null, .null, .int 0])] : x_W) ++ [.inr (1, [.int 0, .null])]) ([a0, .inr (2, [.null, .null, .int 0])] : x_W).length).bind fun w1 => (x_pf w1 1 2 0 (.ref ([a0, .inr (2, [.null, .null, .int 0])] : x_W).length)).bind fun w2 => (x_pf (w2 ++ [.inl (192, fun _ => 0)]) 1 2 1 (.ref w2.length)).bind fun w4 => (x_ob w4 1 2).bind fun _ => (k w4 1 (1 : Int32)).bind fun w6 => some w6) = (k [a0, .inr (2, [.ref 2, .ref 4, .int 0]), .inr (1, [.int 0, .ref 3]), .inl (6, fun _ => 0), .inl (192, fun _ => 0)] 1 (nI 1)).bind fun w6 => some w6 := rfl
theorem z_gi2 (k : x_W → Nat → Int32 → Option x_W) (a0 a1 a2 a3 a4 : x_C) : ((fR_init (([a0, a1, a2, a3, a4, .inr (2, [.null, .null, .int 0])] : x_W) ++ [.inr (1, [.int 0, .null])]) ([a0, a1, a2, a3, a4, .inr (2, [.null, .null, .int 0])] : x_W).length).bind fun w1 => (x_pf w1 5 2 0 (.ref ([a0, a1, a2, a3, a4, .inr (2, [.null, .null, .int 0])] : x_W).length)).bind fun w2 => (x_pf (w2 ++ [.inl (192, fun _ => 0)]) 5 2 1 (.ref w2.length)).bind fun w4 => (x_ob w4 5 2).bind fun _ => (k w4 5 (1 : Int32)).bind fun w6 => some w6) = (k [a0, a1, a2, a3, a4, .inr (2, [.ref 6, .ref 8, .int 0]), .inr (1, [.int 0, .ref 7]), .inl (6, fun _ => 0), .inl (192, fun _ => 0)] 5 (nI 1)).bind fun w6 => some w6 := rfl
theorem z_gia (a0 : x_C) : ∃ w' F' U', fG_restart [a0, .inr (2, [.ref 2, .ref 4, .int 0]), .inr (1, [.int 0, .ref 3]), .inl (6, fun _ => 0), .inl (192, fun _ => 0)] 1 (nI 1) = some w' ∧ w'[1]? = some (.inr (2, [.ref 2, .ref 4, .int 0])) ∧ w'[2]? = some (.inr (1, [.int (nI 1), .ref 3])) ∧ w'[3]? = some (.inl (6, F')) ∧ (∀ p, p < 1 → F' p = 0) ∧ w'[4]? = some (.inl (192, U')) ∧ (∀ i, i < 1 * 32 → U' i = 8) ∧ ∀ j, j ≠ 1 → j ≠ 2 → j ≠ 3 → j ≠ 4 → w'[j]? = ([a0, .inr (2, [.ref 2, .ref 4, .int 0]), .inr (1, [.int 0, .ref 3]), .inl (6, fun _ => 0), .inl (192, fun _ => 0)] : x_W)[j]? :=
  z_restart (w := [a0, .inr (2, [.ref 2, .ref 4, .int 0]), .inr (1, [.int 0, .ref 3]), .inl (6, fun _ => 0), .inl (192, fun _ => 0)]) (o := 1) (ar := 2) (pa := 3) (wp := 4) (n := 1) rfl rfl rfl rfl (by omega) (by omega) (by omega) (by omega) (by omega) (by omega) (by omega)
theorem z_gib (a0 : x_C) : fG_init [a0, .inr (2, [.null, .null, .int 0])] 1 = (fG_restart [a0, .inr (2, [.ref 2, .ref 4, .int 0]), .inr (1, [.int 0, .ref 3]), .inl (6, fun _ => 0), .inl (192, fun _ => 0)] 1 (nI 1)).bind fun w6 => some w6 := by
  unfold fG_init
  exact z_gi fG_restart a0
theorem z_gic (a0 : x_C) (w' : x_W) (F' U' : Nat → Int32) (r2 : w'[1]? = some (.inr (2, [.ref 2, .ref 4, .int 0]))) (r3 : w'[2]? = some (.inr (1, [.int (nI 1), .ref 3]))) (r4 : w'[3]? = some (.inl (6, F'))) (r6 : w'[4]? = some (.inl (192, U'))) (r8 : ∀ j, j ≠ 1 → j ≠ 2 → j ≠ 3 → j ≠ 4 → w'[j]? = ([a0, .inr (2, [.ref 2, .ref 4, .int 0]), .inr (1, [.int 0, .ref 3]), .inl (6, fun _ => 0), .inl (192, fun _ => 0)] : x_W)[j]?) : w' = z_w5 a0 F' U' := by
  apply List.ext_getElem?
  intro i
  match i with
  | 0 => exact r8 0 (by omega) (by omega) (by omega) (by omega)
  | 1 => exact r2
  | 2 => exact r3
  | 3 => exact r4
  | 4 => exact r6
  | i + 5 => exact r8 (i + 5) (by omega) (by omega) (by omega) (by omega)
theorem z_new1 (a0 : x_C) : ∃ F U, fG_init [a0, .inr (2, [.null, .null, .int 0])] 1 = some (z_w5 a0 F U) ∧ F 0 = 0 ∧ ∀ i, i < 32 → U i = 8 := by
  obtain ⟨w', F', U', r1, r2, r3, r4, r5, r6, r7, r8⟩ := z_gia a0
  have e := z_gic a0 w' F' U' r2 r3 r4 r6 r8
  subst e
  refine ⟨F', U', ?_, r5 0 (Nat.lt_succ_self 0), fun i hi => r7 i (Nat.lt_of_lt_of_le hi (Nat.le_of_eq (by decide)))⟩
  rw [z_gib, r1, Option.bind_some]
theorem z_gi2a (a0 a1 a2 a3 a4 : x_C) : ∃ w' F' U', fG_restart [a0, a1, a2, a3, a4, .inr (2, [.ref 6, .ref 8, .int 0]), .inr (1, [.int 0, .ref 7]), .inl (6, fun _ => 0), .inl (192, fun _ => 0)] 5 (nI 1) = some w' ∧ w'[5]? = some (.inr (2, [.ref 6, .ref 8, .int 0])) ∧ w'[6]? = some (.inr (1, [.int (nI 1), .ref 7])) ∧ w'[7]? = some (.inl (6, F')) ∧ (∀ p, p < 1 → F' p = 0) ∧ w'[8]? = some (.inl (192, U')) ∧ (∀ i, i < 1 * 32 → U' i = 8) ∧ ∀ j, j ≠ 5 → j ≠ 6 → j ≠ 7 → j ≠ 8 → w'[j]? = ([a0, a1, a2, a3, a4, .inr (2, [.ref 6, .ref 8, .int 0]), .inr (1, [.int 0, .ref 7]), .inl (6, fun _ => 0), .inl (192, fun _ => 0)] : x_W)[j]? :=
  z_restart (w := [a0, a1, a2, a3, a4, .inr (2, [.ref 6, .ref 8, .int 0]), .inr (1, [.int 0, .ref 7]), .inl (6, fun _ => 0), .inl (192, fun _ => 0)]) (o := 5) (ar := 6) (pa := 7) (wp := 8) (n := 1) rfl rfl rfl rfl (by omega) (by omega) (by omega) (by omega) (by omega) (by omega) (by omega)
theorem z_gi2b (a0 a1 a2 a3 a4 : x_C) : fG_init [a0, a1, a2, a3, a4, .inr (2, [.null, .null, .int 0])] 5 = (fG_restart [a0, a1, a2, a3, a4, .inr (2, [.ref 6, .ref 8, .int 0]), .inr (1, [.int 0, .ref 7]), .inl (6, fun _ => 0), .inl (192, fun _ => 0)] 5 (nI 1)).bind fun w6 => some w6 := by
  unfold fG_init
  exact z_gi2 fG_restart a0 a1 a2 a3 a4
theorem z_gi2c (a0 a1 a2 a3 a4 : x_C) (w' : x_W) (F' U' : Nat → Int32) (r2 : w'[5]? = some (.inr (2, [.ref 6, .ref 8, .int 0]))) (r3 : w'[6]? = some (.inr (1, [.int (nI 1), .ref 7]))) (r4 : w'[7]? = some (.inl (6, F'))) (r6 : w'[8]? = some (.inl (192, U'))) (r8 : ∀ j, j ≠ 5 → j ≠ 6 → j ≠ 7 → j ≠ 8 → w'[j]? = ([a0, a1, a2, a3, a4, .inr (2, [.ref 6, .ref 8, .int 0]), .inr (1, [.int 0, .ref 7]), .inl (6, fun _ => 0), .inl (192, fun _ => 0)] : x_W)[j]?) : w' = z_w9 a0 a1 a2 a3 a4 F' U' := by
  apply List.ext_getElem?
  intro i
  match i with
  | 0 => exact r8 0 (by omega) (by omega) (by omega) (by omega)
  | 1 => exact r8 1 (by omega) (by omega) (by omega) (by omega)
  | 2 => exact r8 2 (by omega) (by omega) (by omega) (by omega)
  | 3 => exact r8 3 (by omega) (by omega) (by omega) (by omega)
  | 4 => exact r8 4 (by omega) (by omega) (by omega) (by omega)
  | 5 => exact r2
  | 6 => exact r3
  | 7 => exact r4
  | 8 => exact r6
  | i + 9 => exact r8 (i + 9) (by omega) (by omega) (by omega) (by omega)
theorem z_new2 (a0 a1 a2 a3 a4 : x_C) : ∃ F U, fG_init [a0, a1, a2, a3, a4, .inr (2, [.null, .null, .int 0])] 5 = some (z_w9 a0 a1 a2 a3 a4 F U) ∧ F 0 = 0 ∧ ∀ i, i < 32 → U i = 8 := by
  obtain ⟨w', F', U', r1, r2, r3, r4, r5, r6, r7, r8⟩ := z_gi2a a0 a1 a2 a3 a4
  have e := z_gi2c a0 a1 a2 a3 a4 w' F' U' r2 r3 r4 r6 r8
  subst e
  refine ⟨F', U', ?_, r5 0 (Nat.lt_succ_self 0), fun i hi => r7 i (Nat.lt_of_lt_of_le hi (Nat.le_of_eq (by decide)))⟩
  rw [z_gi2b, r1, Option.bind_some]
def z_w18 (F U F2 U2 : Nat → Int32) : x_W := [.inr (0, [.ref 1, .ref 5, .ref 9, .ref 11, .ref 16, .ref 17]), .inr (2, [.ref 2, .ref 4, .int 0]), .inr (1, [.int 1, .ref 3]), .inl (6, F), .inl (192, U), .inr (2, [.ref 6, .ref 8, .int 0]), .inr (1, [.int 1, .ref 7]), .inl (6, F2), .inl (192, U2), .inr (1, [.int 0, .ref 10]), .inl (6, fun _ => 0), .inr (4, [.ref 12, .ref 13, .ref 14, .ref 15, .int 0, .int 0]), .inl (6, fun _ => 0), .inl (6, fun _ => 0), .inl (6, fun _ => 0), .inl (6, fun _ => 0), .inr (3, [.int 0, .int 0, .int 0, .int 0]), .inr (3, [.int 0, .int 0, .int 0, .int 0])]
theorem z_newA : ∃ F U F2 U2, fA_init [.inr (0, [.null, .null, .null, .null, .null, .null])] 0 = some (z_w18 F U F2 U2) ∧ F 0 = 0 ∧ (∀ i, i < 32 → U i = 8) ∧ F2 0 = 0 ∧ ∀ i, i < 32 → U2 i = 8 := by
  obtain ⟨F, U, r1, r2, r3⟩ := z_new1 (.inr (0, [.null, .null, .null, .null, .null, .null]))
  obtain ⟨F2, U2, s1, s2, s3⟩ := z_new2 (.inr (0, [.ref 1, .null, .null, .null, .null, .null])) (.inr (2, [.ref 2, .ref 4, .int 0])) (.inr (1, [.int 1, .ref 3])) (.inl (6, F)) (.inl (192, U))
  refine ⟨F, U, F2, U2, ?_, r2, r3, s2, s3⟩
  have r1' : fG_init (([.inr (0, [.null, .null, .null, .null, .null, .null])] : x_W) ++ [.inr (2, [.null, .null, .int 0])]) ([.inr (0, [.null, .null, .null, .null, .null, .null])] : x_W).length = some (z_w5 (.inr (0, [.null, .null, .null, .null, .null, .null])) F U) := r1
  have e2 : x_pf (z_w5 (.inr (0, [.null, .null, .null, .null, .null, .null])) F U) 0 0 0 (.ref ([.inr (0, [.null, .null, .null, .null, .null, .null])] : x_W).length) = some (z_w5 (.inr (0, [.ref 1, .null, .null, .null, .null, .null])) F U) := rfl
  have s1' : fG_init (z_w5 (.inr (0, [.ref 1, .null, .null, .null, .null, .null])) F U ++ [.inr (2, [.null, .null, .int 0])]) (z_w5 (.inr (0, [.ref 1, .null, .null, .null, .null, .null])) F U).length = some (z_w9 (.inr (0, [.ref 1, .null, .null, .null, .null, .null])) (.inr (2, [.ref 2, .ref 4, .int 0])) (.inr (1, [.int 1, .ref 3])) (.inl (6, F)) (.inl (192, U)) F2 U2) := s1
  unfold fA_init
  rw [r1', Option.bind_some, e2, Option.bind_some, s1', Option.bind_some]
  refine z_bnn (a := [.inr (0, [.ref 1, .ref 5, .null, .null, .null, .null]), .inr (2, [.ref 2, .ref 4, .int 0]), .inr (1, [.int 1, .ref 3]), .inl (6, F), .inl (192, U), .inr (2, [.ref 6, .ref 8, .int 0]), .inr (1, [.int 1, .ref 7]), .inl (6, F2), .inl (192, U2)]) rfl ?_
  refine z_bnn (a := [.inr (0, [.ref 1, .ref 5, .null, .null, .null, .null]), .inr (2, [.ref 2, .ref 4, .int 0]), .inr (1, [.int 1, .ref 3]), .inl (6, F), .inl (192, U), .inr (2, [.ref 6, .ref 8, .int 0]), .inr (1, [.int 1, .ref 7]), .inl (6, F2), .inl (192, U2), .inr (1, [.int 0, .ref 10]), .inl (6, fun _ => 0)]) rfl ?_
  refine z_bnn (a := [.inr (0, [.ref 1, .ref 5, .ref 9, .null, .null, .null]), .inr (2, [.ref 2, .ref 4, .int 0]), .inr (1, [.int 1, .ref 3]), .inl (6, F), .inl (192, U), .inr (2, [.ref 6, .ref 8, .int 0]), .inr (1, [.int 1, .ref 7]), .inl (6, F2), .inl (192, U2), .inr (1, [.int 0, .ref 10]), .inl (6, fun _ => 0)]) rfl ?_
  refine z_bnn (a := [.inr (0, [.ref 1, .ref 5, .ref 9, .null, .null, .null]), .inr (2, [.ref 2, .ref 4, .int 0]), .inr (1, [.int 1, .ref 3]), .inl (6, F), .inl (192, U), .inr (2, [.ref 6, .ref 8, .int 0]), .inr (1, [.int 1, .ref 7]), .inl (6, F2), .inl (192, U2), .inr (1, [.int 0, .ref 10]), .inl (6, fun _ => 0), .inr (4, [.ref 12, .ref 13, .ref 14, .ref 15, .int 0, .int 0]), .inl (6, fun _ => 0), .inl (6, fun _ => 0), .inl (6, fun _ => 0), .inl (6, fun _ => 0)]) ?_ ?_
  · unfold fK_init
    refine z_bnn (a := [.inr (0, [.ref 1, .ref 5, .ref 9, .null, .null, .null]), .inr (2, [.ref 2, .ref 4, .int 0]), .inr (1, [.int 1, .ref 3]), .inl (6, F), .inl (192, U), .inr (2, [.ref 6, .ref 8, .int 0]), .inr (1, [.int 1, .ref 7]), .inl (6, F2), .inl (192, U2), .inr (1, [.int 0, .ref 10]), .inl (6, fun _ => 0), .inr (4, [.ref 12, .null, .null, .null, .int 0, .int 0]), .inl (6, fun _ => 0)]) rfl ?_
    refine z_bnn (a := [.inr (0, [.ref 1, .ref 5, .ref 9, .null, .null, .null]), .inr (2, [.ref 2, .ref 4, .int 0]), .inr (1, [.int 1, .ref 3]), .inl (6, F), .inl (192, U), .inr (2, [.ref 6, .ref 8, .int 0]), .inr (1, [.int 1, .ref 7]), .inl (6, F2), .inl (192, U2), .inr (1, [.int 0, .ref 10]), .inl (6, fun _ => 0), .inr (4, [.ref 12, .ref 13, .null, .null, .int 0, .int 0]), .inl (6, fun _ => 0), .inl (6, fun _ => 0)]) rfl ?_
    refine z_bnn (a := [.inr (0, [.ref 1, .ref 5, .ref 9, .null, .null, .null]), .inr (2, [.ref 2, .ref 4, .int 0]), .inr (1, [.int 1, .ref 3]), .inl (6, F), .inl (192, U), .inr (2, [.ref 6, .ref 8, .int 0]), .inr (1, [.int 1, .ref 7]), .inl (6, F2), .inl (192, U2), .inr (1, [.int 0, .ref 10]), .inl (6, fun _ => 0), .inr (4, [.ref 12, .ref 13, .ref 14, .null, .int 0, .int 0]), .inl (6, fun _ => 0), .inl (6, fun _ => 0), .inl (6, fun _ => 0)]) rfl ?_
    refine z_bnn (a := [.inr (0, [.ref 1, .ref 5, .ref 9, .null, .null, .null]), .inr (2, [.ref 2, .ref 4, .int 0]), .inr (1, [.int 1, .ref 3]), .inl (6, F), .inl (192, U), .inr (2, [.ref 6, .ref 8, .int 0]), .inr (1, [.int 1, .ref 7]), .inl (6, F2), .inl (192, U2), .inr (1, [.int 0, .ref 10]), .inl (6, fun _ => 0), .inr (4, [.ref 12, .ref 13, .ref 14, .ref 15, .int 0, .int 0]), .inl (6, fun _ => 0), .inl (6, fun _ => 0), .inl (6, fun _ => 0), .inl (6, fun _ => 0)]) rfl ?_
    rfl
  refine z_bnn (a := [.inr (0, [.ref 1, .ref 5, .ref 9, .ref 11, .null, .null]), .inr (2, [.ref 2, .ref 4, .int 0]), .inr (1, [.int 1, .ref 3]), .inl (6, F), .inl (192, U), .inr (2, [.ref 6, .ref 8, .int 0]), .inr (1, [.int 1, .ref 7]), .inl (6, F2), .inl (192, U2), .inr (1, [.int 0, .ref 10]), .inl (6, fun _ => 0), .inr (4, [.ref 12, .ref 13, .ref 14, .ref 15, .int 0, .int 0]), .inl (6, fun _ => 0), .inl (6, fun _ => 0), .inl (6, fun _ => 0), .inl (6, fun _ => 0)]) rfl ?_
  refine z_bnn (a := [.inr (0, [.ref 1, .ref 5, .ref 9, .ref 11, .ref 16, .null]), .inr (2, [.ref 2, .ref 4, .int 0]), .inr (1, [.int 1, .ref 3]), .inl (6, F), .inl (192, U), .inr (2, [.ref 6, .ref 8, .int 0]), .inr (1, [.int 1, .ref 7]), .inl (6, F2), .inl (192, U2), .inr (1, [.int 0, .ref 10]), .inl (6, fun _ => 0), .inr (4, [.ref 12, .ref 13, .ref 14, .ref 15, .int 0, .int 0]), .inl (6, fun _ => 0), .inl (6, fun _ => 0), .inl (6, fun _ => 0), .inl (6, fun _ => 0), .inr (3, [.int 0, .int 0, .int 0, .int 0])]) rfl ?_
  refine z_bnn (a := [.inr (0, [.ref 1, .ref 5, .ref 9, .ref 11, .ref 16, .ref 17]), .inr (2, [.ref 2, .ref 4, .int 0]), .inr (1, [.int 1, .ref 3]), .inl (6, F), .inl (192, U), .inr (2, [.ref 6, .ref 8, .int 0]), .inr (1, [.int 1, .ref 7]), .inl (6, F2), .inl (192, U2), .inr (1, [.int 0, .ref 10]), .inl (6, fun _ => 0), .inr (4, [.ref 12, .ref 13, .ref 14, .ref 15, .int 0, .int 0]), .inl (6, fun _ => 0), .inl (6, fun _ => 0), .inl (6, fun _ => 0), .inl (6, fun _ => 0), .inr (3, [.int 0, .int 0, .int 0, .int 0]), .inr (3, [.int 0, .int 0, .int 0, .int 0])]) rfl ?_
  rfl
def z_w28 (F U F2 U2 : Nat → Int32) : x_W := z_w18 F U F2 U2 ++ [z_c18 0 0 0, .inl (2, fun _ => 0), .inl (12, fun _ => 0), .inl (768, fun _ => 0), .inl (2, fun _ => 0), .inl (6, fun _ => 0), .inl (15, fun _ => 0), .inl (15, fun _ => 0), .inl (6, fun _ => 0), .inl (6, fun _ => 0)]
theorem z_gm (k : x_W → Nat → Int32 → Int32 → Option x_W) (F U F2 U2 : Nat → Int32) : ((x_pf ((z_w18 F U F2 U2 ++ ([.inr (5, [.null, .null, .null, .null, .int 0, .null, .null, .null, .int 0, .null, .null, .int 0])] : x_W)) ++ [.inl (2, fun _ => 0)]) 18 5 0 (.ref (z_w18 F U F2 U2 ++ ([.inr (5, [.null, .null, .null, .null, .int 0, .null, .null, .null, .int 0, .null, .null, .int 0])] : x_W)).length)).bind fun w2 =>
  (x_pf (w2 ++ [.inl (12, fun _ => 0)]) 18 5 1 (.ref w2.length)).bind fun w4 =>
  (x_pf (w4 ++ [.inl (768, fun _ => 0)]) 18 5 2 (.ref w4.length)).bind fun w6 =>
  (x_pf (w6 ++ [.inl (2, fun _ => 0)]) 18 5 3 (.ref w6.length)).bind fun w8 =>
  (x_pf (w8 ++ [.inl (6, fun _ => 0)]) 18 5 5 (.ref w8.length)).bind fun w10 =>
  (x_pf (w10 ++ [.inl (15, fun _ => 0)]) 18 5 6 (.ref w10.length)).bind fun w12 =>
  (x_pf (w12 ++ [.inl (15, fun _ => 0)]) 18 5 7 (.ref w12.length)).bind fun w14 =>
  (x_pf (w14 ++ [.inl (6, fun _ => 0)]) 18 5 9 (.ref w14.length)).bind fun w16 =>
  (x_pf (w16 ++ [.inl (6, fun _ => 0)]) 18 5 10 (.ref w16.length)).bind fun w18 =>
  (x_ob w18 18 5).bind fun _ =>
  (k w18 18 (0 : Int32) (1 : Int32)).bind fun w20 =>
  (x_ob w20 18 5).bind fun _ =>
  (k w20 18 (1 : Int32) (1 : Int32)).bind fun w22 =>
  some w22) = (k (z_w28 F U F2 U2) 18 (nI 0) 1).bind fun w20 => (x_ob w20 18 5).bind fun _ => (k w20 18 (nI 1) 1).bind fun w22 => some w22 := by
  refine z_bnn (a := z_w18 F U F2 U2 ++ [.inr (5, [.ref 19, .null, .null, .null, .int 0, .null, .null, .null, .int 0, .null, .null, .int 0]), .inl (2, fun _ => 0)]) rfl ?_
  refine z_bnn (a := z_w18 F U F2 U2 ++ [.inr (5, [.ref 19, .ref 20, .null, .null, .int 0, .null, .null, .null, .int 0, .null, .null, .int 0]), .inl (2, fun _ => 0), .inl (12, fun _ => 0)]) rfl ?_
  refine z_bnn (a := z_w18 F U F2 U2 ++ [.inr (5, [.ref 19, .ref 20, .ref 21, .null, .int 0, .null, .null, .null, .int 0, .null, .null, .int 0]), .inl (2, fun _ => 0), .inl (12, fun _ => 0), .inl (768, fun _ => 0)]) rfl ?_
  refine z_bnn (a := z_w18 F U F2 U2 ++ [.inr (5, [.ref 19, .ref 20, .ref 21, .ref 22, .int 0, .null, .null, .null, .int 0, .null, .null, .int 0]), .inl (2, fun _ => 0), .inl (12, fun _ => 0), .inl (768, fun _ => 0), .inl (2, fun _ => 0)]) rfl ?_
  refine z_bnn (a := z_w18 F U F2 U2 ++ [.inr (5, [.ref 19, .ref 20, .ref 21, .ref 22, .int 0, .ref 23, .null, .null, .int 0, .null, .null, .int 0]), .inl (2, fun _ => 0), .inl (12, fun _ => 0), .inl (768, fun _ => 0), .inl (2, fun _ => 0), .inl (6, fun _ => 0)]) rfl ?_
  refine z_bnn (a := z_w18 F U F2 U2 ++ [.inr (5, [.ref 19, .ref 20, .ref 21, .ref 22, .int 0, .ref 23, .ref 24, .null, .int 0, .null, .null, .int 0]), .inl (2, fun _ => 0), .inl (12, fun _ => 0), .inl (768, fun _ => 0), .inl (2, fun _ => 0), .inl (6, fun _ => 0), .inl (15, fun _ => 0)]) rfl ?_
  refine z_bnn (a := z_w18 F U F2 U2 ++ [.inr (5, [.ref 19, .ref 20, .ref 21, .ref 22, .int 0, .ref 23, .ref 24, .ref 25, .int 0, .null, .null, .int 0]), .inl (2, fun _ => 0), .inl (12, fun _ => 0), .inl (768, fun _ => 0), .inl (2, fun _ => 0), .inl (6, fun _ => 0), .inl (15, fun _ => 0), .inl (15, fun _ => 0)]) rfl ?_
  refine z_bnn (a := z_w18 F U F2 U2 ++ [.inr (5, [.ref 19, .ref 20, .ref 21, .ref 22, .int 0, .ref 23, .ref 24, .ref 25, .int 0, .ref 26, .null, .int 0]), .inl (2, fun _ => 0), .inl (12, fun _ => 0), .inl (768, fun _ => 0), .inl (2, fun _ => 0), .inl (6, fun _ => 0), .inl (15, fun _ => 0), .inl (15, fun _ => 0), .inl (6, fun _ => 0)]) rfl ?_
  refine z_bnn (a := z_w18 F U F2 U2 ++ [.inr (5, [.ref 19, .ref 20, .ref 21, .ref 22, .int 0, .ref 23, .ref 24, .ref 25, .int 0, .ref 26, .ref 27, .int 0]), .inl (2, fun _ => 0), .inl (12, fun _ => 0), .inl (768, fun _ => 0), .inl (2, fun _ => 0), .inl (6, fun _ => 0), .inl (15, fun _ => 0), .inl (15, fun _ => 0), .inl (6, fun _ => 0), .inl (6, fun _ => 0)]) rfl ?_
  rfl
theorem z_newM (F U F2 U2 : Nat → Int32) (h1 : F 0 = 0) (h2 : ∀ i, i < 32 → U i = 8) (h3 : F2 0 = 0) (h4 : ∀ i, i < 32 → U2 i = 8) : ∃ w, fM_init (z_w18 F U F2 U2 ++ [.inr (5, [.null, .null, .null, .null, .int 0, .null, .null, .null, .int 0, .null, .null, .int 0])]) 18 = some w ∧ z_rel w := by
  obtain ⟨w1, P1, Q1, a1, a2, a3, a4, a5, a6, a7, a8⟩ := z_mclear (w := z_w28 F U F2 U2) (g := 0) (k0 := 1) rfl rfl rfl rfl rfl (by omega)
  have c1 : w1[18]? = some (z_c18 0 0 0) := by rw [a8 18 (by omega)]; rfl
  obtain ⟨w2, P2, Q2, b1, b2, b3, b4, b5, b6, b7, b8⟩ := z_mclear (w := w1) (g := 1) (k0 := 1) c1 a2 a4 a6 a3 (by omega)
  have ok : z_ok 1 (fun _ => 0) (fun _ _ => 8) 0 := ⟨by omega, by omega, fun p hp => Nat.two_pow_pos p, fun _ _ => (by decide : 8 ≤ 16), by omega⟩
  have far : ∀ j, j < 19 ∨ 22 < j → w2[j]? = (z_w28 F U F2 U2)[j]? := fun j hj => by rw [b8 j hj, a8 j hj]
  refine ⟨w2, ?_, 1, fun _ => 0, fun _ _ => 8, 0, 1, fun _ => 0, fun _ _ => 8, 0, ⟨1, ⟨?_, Or.inl rfl⟩, ⟨ok, ?_, ?_, F, U, ?_, ?_, fun p hp => ?_, fun p hp v hv _ => ?_⟩, ⟨ok, ?_, ?_, F2, U2, ?_, ?_, fun p hp => ?_, fun p hp v hv _ => ?_⟩, ⟨⟨0, fun _ => 0, ?_, ?_⟩, ⟨0, 0, ?_⟩, ⟨fun _ => 0, ?_⟩, ⟨fun _ => 0, ?_⟩, ⟨fun _ => 0, ?_⟩, ⟨fun _ => 0, ?_⟩, ⟨.int 0, .int 0, .int 0, .int 0, ?_⟩, ⟨.int 0, .int 0, .int 0, .int 0, ?_⟩⟩⟩, ok, ok, ⟨⟨0, 0, 0, ?_⟩, ⟨fun _ => 0, ?_⟩, ⟨fun _ => 0, ?_⟩, ⟨fun _ => 0, ?_⟩, ⟨fun _ => 0, ?_⟩, ⟨fun _ => 0, ?_⟩⟩, ⟨⟨_, b2, ?_, ?_⟩, ⟨_, b4, fun p hp => ?_, fun p hp => ?_⟩, ⟨_, b6, fun p hp v hv _ => ?_, fun p hp v hv _ => ?_⟩, ⟨_, b3, ?_, ?_⟩⟩⟩
  · have e : fM_init (z_w18 F U F2 U2 ++ [.inr (5, [.null, .null, .null, .null, .int 0, .null, .null, .null, .int 0, .null, .null, .int 0])]) 18 = (fM_clear (z_w28 F U F2 U2) 18 (nI 0) 1).bind fun w20 => (x_ob w20 18 5).bind fun _ => (fM_clear w20 18 (nI 1) 1).bind fun w22 => some w22 := by
      unfold fM_init
      exact z_gm fM_clear F U F2 U2
    rw [e, a1, Option.bind_some, (z_f18 c1).1, Option.bind_some, b1, Option.bind_some]
  · rw [far 0 (by omega)]; rfl
  · rw [far 1 (by omega)]; rfl
  · rw [far 2 (by omega)]; rfl
  · rw [far 3 (by omega)]; rfl
  · rw [far 4 (by omega)]; rfl
  · obtain rfl : p = 0 := by omega
    exact h1
  · obtain rfl : p = 0 := by omega
    exact h2 _ (by omega)
  · rw [far 5 (by omega)]; rfl
  · rw [far 6 (by omega)]; rfl
  · rw [far 7 (by omega)]; rfl
  · rw [far 8 (by omega)]; rfl
  · obtain rfl : p = 0 := by omega
    exact h3
  · obtain rfl : p = 0 := by omega
    exact h4 _ (by omega)
  · rw [far 9 (by omega)]; rfl
  · rw [far 10 (by omega)]; rfl
  · rw [far 11 (by omega)]; rfl
  · rw [far 12 (by omega)]; rfl
  · rw [far 13 (by omega)]; rfl
  · rw [far 14 (by omega)]; rfl
  · rw [far 15 (by omega)]; rfl
  · rw [far 16 (by omega)]; rfl
  · rw [far 17 (by omega)]; rfl
  · rw [far 18 (by omega)]; rfl
  · rw [far 23 (by omega)]; rfl
  · rw [far 24 (by omega)]; rfl
  · rw [far 25 (by omega)]; rfl
  · rw [far 26 (by omega)]; rfl
  · rw [far 27 (by omega)]; rfl
  · rw [z_upd_n (by omega), z_upd_s]; rfl
  · rw [z_upd_s]; rfl
  · obtain rfl : p = 0 := by omega
    rw [b5, if_neg (by omega), a5, if_pos (by omega)]; rfl
  · obtain rfl : p = 0 := by omega
    rw [b5, if_pos (by omega)]; rfl
  · obtain rfl : p = 0 := by omega
    rw [b7, if_neg (by omega), a7, if_pos (by omega)]; rfl
  · obtain rfl : p = 0 := by omega
    rw [b7, if_pos (by omega)]; rfl
  · rw [z_upd_n (by omega), z_upd_s]; rfl
  · rw [z_upd_s]; rfl
theorem z_start (L : Nat) (xs : Nat → Int32) : ∃ w, z_rel w ∧ fL_law L xs [] = fL_law_18 L xs x_F w 0 18 0 := by
  obtain ⟨F, U, F2, U2, a1, a2, a3, a4, a5⟩ := z_newA
  obtain ⟨w, b1, b2⟩ := z_newM F U F2 U2 a2 a3 a4 a5
  refine ⟨w, b2, ?_⟩
  have a1' : fA_init (([] : x_W) ++ [.inr (0, [.null, .null, .null, .null, .null, .null])]) ([] : x_W).length = some (z_w18 F U F2 U2) := a1
  have b1' : fM_init (z_w18 F U F2 U2 ++ [.inr (5, [.null, .null, .null, .null, .int 0, .null, .null, .null, .int 0, .null, .null, .int 0])]) (z_w18 F U F2 U2).length = some w := b1
  have e : (z_w18 F U F2 U2).length = 18 := rfl
  unfold fL_law
  rw [a1', Option.bind_some, b1', Option.bind_some, e]
  rfl
