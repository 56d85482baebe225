/-! ActSurgeryModel.isArrow(II)Z: level P -/
theorem dM_isArrow_0 : decode cM_isArrow 0 = .ok (.aload_n 0, 1) := by decide +kernel
theorem dM_isArrow_1 : decode cM_isArrow 1 = .ok (.getfield 13, 3) := by decide +kernel
theorem dM_isArrow_4 : decode cM_isArrow 4 = .ok (.iload_n 2, 1) := by decide +kernel
theorem dM_isArrow_5 : decode cM_isArrow 5 = .ok (.iaload, 1) := by decide +kernel
theorem dM_isArrow_6 : decode cM_isArrow 6 = .ok (.iload_n 1, 1) := by decide +kernel
theorem dM_isArrow_7 : decode cM_isArrow 7 = .ok (.invokestatic 62, 3) := by decide +kernel
theorem dM_isArrow_10 : decode cM_isArrow 10 = .ok (.ifCond .eq 18, 3) := by decide +kernel
theorem dM_isArrow_13 : decode cM_isArrow 13 = .ok (.aload_n 0, 1) := by decide +kernel
theorem dM_isArrow_14 : decode cM_isArrow 14 = .ok (.getfield 66, 3) := by decide +kernel
theorem dM_isArrow_17 : decode cM_isArrow 17 = .ok (.iload_n 1, 1) := by decide +kernel
theorem dM_isArrow_18 : decode cM_isArrow 18 = .ok (.invokestatic 62, 3) := by decide +kernel
theorem dM_isArrow_21 : decode cM_isArrow 21 = .ok (.ifCond .ne 7, 3) := by decide +kernel
theorem dM_isArrow_24 : decode cM_isArrow 24 = .ok (.iconst 1, 1) := by decide +kernel
theorem dM_isArrow_25 : decode cM_isArrow 25 = .ok (.goto 4, 3) := by decide +kernel
theorem dM_isArrow_28 : decode cM_isArrow 28 = .ok (.iconst 0, 1) := by decide +kernel
theorem dM_isArrow_29 : decode cM_isArrow 29 = .ok (.ireturn, 1) := by decide +kernel
theorem tw_3_76 : (Jvm.Cond.static ({ cls := "ActSurgeryModel", name := "has", desc := "(II)Z" } : Jvm.MethodName)) ∈ x_GT := x_t3 76 rfl rfl
theorem tw_3_77 : (Jvm.Cond.code ({ cls := "ActSurgeryModel", name := "has", desc := "(II)Z" } : Jvm.MethodName) prog_7_method_10_code (2 : Nat) (Option.some Jvm.ClassFile.FieldType.boolean)) ∈ x_GT := x_t3 77 rfl rfl
theorem tw_3_75 : (Jvm.Cond.methodLink "ActSurgeryModel" (62 : Nat) ({ cls := "ActSurgeryModel", name := "has", desc := "(II)Z" } : Jvm.MethodName)) ∈ x_GT := x_t3 75 rfl rfl
theorem kM_62 : x_kS "ActSurgeryModel" 62 yM_has cM_has 2 (some .boolean) 2 := ⟨tw_3_76, tw_3_77, tw_1_6, tw_3_75, (by decide +kernel)⟩
theorem tw_2_239 : (Jvm.Cond.fieldLink "ActSurgeryModel" (66 : Nat) "ActSurgeryModel" "cut" "I") ∈ x_GT := x_t2 239 rfl rfl
def fM_isArrow (w : x_W) (v0 : Nat) (v1 : Int32) (v2 : Int32) : Option Int32 :=
  (x_fr w v0 5 1).bind fun t1 =>
  (x_ai w t1 v2).bind fun t2 =>
  if (fM_has t2 v1) = (0 : Int32) then
    some (0 : Int32)
  else
    (x_fi w v0 5 4).bind fun t4 =>
    if (fM_has t4 v1) = (0 : Int32) then
      some (1 : Int32)
    else
      some (0 : Int32)
set_option maxHeartbeats 4000000 in
set_option maxRecDepth 100000 in
theorem mM_isArrow (d : Nat) (hd : 2 ≤ d) {K : Option Value → x_W → Prop} {w : x_W} {v0 : Nat} {v1 : Int32} {v2 : Int32} {r : Int32} (h : fM_isArrow w v0 v1 v2 = some r) (hK : K (some (.int r)) w) : x_M yM_isArrow cM_isArrow 3 (some .boolean) d 0 0 [.ref v0, .int v1, .int v2] w K := by
  refine x_M.of [some (.ref v0), some (.int v1), some (.int v2)] (by decide) rfl (Nat.le_of_ble_eq_true rfl) ?_
  unfold fM_isArrow at h
  refine g_aload_n 1 (i := 0) dM_isArrow_0 rfl rfl rfl ?_
  obtain ⟨t1, e1, h⟩ := x_bind h
  refine g_getfR 4 5 1 dM_isArrow_1 rfl x_in5 tw_2_236 rfl (by decide) e1 ?_
  refine g_iload_n 5 (i := 2) dM_isArrow_4 rfl rfl rfl ?_
  obtain ⟨t2, e2, h⟩ := x_bind h
  refine g_iald 6 dM_isArrow_5 rfl e2 ?_
  refine g_iload_n 7 (i := 1) dM_isArrow_6 rfl rfl rfl ?_
  refine g_cS 10 (some (.int (fM_has t2 v1))) w [.int t2, .int v1] [] dM_isArrow_7 rfl (fun _ hK2 => mM_has (d - 1) (by omega) rfl hK2) kM_62 (x_rm (Nat.le_trans (by decide) hd) (by decide)) ⟨Nat.zero_le _, Nat.zero_le _⟩ (Nat.le_of_ble_eq_true rfl) rfl ?_
  by_cases c3 : (fM_has t2 v1) = (0 : Int32)
  · rw [if_pos c3] at h
    refine g_if_eq_t 28 dM_isArrow_10 (by decide) c3 ?_
    refine g_iconst 29 (0 : Int32) dM_isArrow_28 rfl (by decide) ?_
    obtain rfl := Option.some.inj h
    exact g_zret rfl (by decide) dM_isArrow_29 hK
  · rw [if_neg c3] at h
    refine g_if_eq_f 13 28 dM_isArrow_10 (by decide) rfl c3 ?_
    refine g_aload_n 14 (i := 0) dM_isArrow_13 rfl rfl rfl ?_
    obtain ⟨t4, e4, h⟩ := x_bind h
    refine g_getfI 17 5 4 dM_isArrow_14 rfl x_in5 tw_2_239 rfl (by decide) e4 ?_
    refine g_iload_n 18 (i := 1) dM_isArrow_17 rfl rfl rfl ?_
    refine g_cS 21 (some (.int (fM_has t4 v1))) w [.int t4, .int v1] [] dM_isArrow_18 rfl (fun _ hK2 => mM_has (d - 1) (by omega) rfl hK2) kM_62 (x_rm (Nat.le_trans (by decide) hd) (by decide)) ⟨Nat.zero_le _, Nat.zero_le _⟩ (Nat.le_of_ble_eq_true rfl) rfl ?_
    by_cases c5 : (fM_has t4 v1) = (0 : Int32)
    · rw [if_pos c5] at h
      refine g_if_ne_f 24 28 dM_isArrow_21 (by decide) rfl c5 ?_
      refine g_iconst 25 (1 : Int32) dM_isArrow_24 rfl (by decide) ?_
      refine g_goto 29 dM_isArrow_25 (by decide) ?_
      obtain rfl := Option.some.inj h
      exact g_zret rfl (by decide) dM_isArrow_29 hK
    · rw [if_neg c5] at h
      refine g_if_ne_t 28 dM_isArrow_21 (by decide) c5 ?_
      refine g_iconst 29 (0 : Int32) dM_isArrow_28 rfl (by decide) ?_
      obtain rfl := Option.some.inj h
      exact g_zret rfl (by decide) dM_isArrow_29 hK
/-! ActSurgeryModel.isJoined(II)Z: level P -/
theorem dM_isJoined_0 : decode cM_isJoined 0 = .ok (.aload_n 0, 1) := by decide +kernel
theorem dM_isJoined_1 : decode cM_isJoined 1 = .ok (.iload_n 1, 1) := by decide +kernel
theorem dM_isJoined_2 : decode cM_isJoined 2 = .ok (.iload_n 2, 1) := by decide +kernel
theorem dM_isJoined_3 : decode cM_isJoined 3 = .ok (.invokevirtual 70, 3) := by decide +kernel
theorem dM_isJoined_6 : decode cM_isJoined 6 = .ok (.ifCond .ne 12, 3) := by decide +kernel
theorem dM_isJoined_9 : decode cM_isJoined 9 = .ok (.aload_n 0, 1) := by decide +kernel
theorem dM_isJoined_10 : decode cM_isJoined 10 = .ok (.iload_n 2, 1) := by decide +kernel
theorem dM_isJoined_11 : decode cM_isJoined 11 = .ok (.iload_n 1, 1) := by decide +kernel
theorem dM_isJoined_12 : decode cM_isJoined 12 = .ok (.invokevirtual 70, 3) := by decide +kernel
theorem dM_isJoined_15 : decode cM_isJoined 15 = .ok (.ifCond .eq 7, 3) := by decide +kernel
theorem dM_isJoined_18 : decode cM_isJoined 18 = .ok (.iconst 1, 1) := by decide +kernel
theorem dM_isJoined_19 : decode cM_isJoined 19 = .ok (.goto 4, 3) := by decide +kernel
theorem dM_isJoined_22 : decode cM_isJoined 22 = .ok (.iconst 0, 1) := by decide +kernel
theorem dM_isJoined_23 : decode cM_isJoined 23 = .ok (.ireturn, 1) := by decide +kernel
theorem tw_3_88 : (Jvm.Cond.instanceMethod ({ cls := "ActSurgeryModel", name := "isArrow", desc := "(II)Z" } : Jvm.MethodName)) ∈ x_GT := x_t3 88 rfl rfl
theorem tws_36 : (Jvm.Cond.selects "ActSurgeryModel" ({ cls := "ActSurgeryModel", name := "isArrow", desc := "(II)Z" } : Jvm.MethodName) ({ cls := "ActSurgeryModel", name := "isArrow", desc := "(II)Z" } : Jvm.MethodName)) ∈ x_GT := x_ts 36 rfl rfl
theorem tw_3_89 : (Jvm.Cond.code ({ cls := "ActSurgeryModel", name := "isArrow", desc := "(II)Z" } : Jvm.MethodName) prog_7_method_15_code (3 : Nat) (Option.some Jvm.ClassFile.FieldType.boolean)) ∈ x_GT := x_t3 89 rfl rfl
theorem tw_3_86 : (Jvm.Cond.methodLink "ActSurgeryModel" (70 : Nat) ({ cls := "ActSurgeryModel", name := "isArrow", desc := "(II)Z" } : Jvm.MethodName)) ∈ x_GT := x_t3 86 rfl rfl
theorem kM_70 : x_kV "ActSurgeryModel" 70 yM_isArrow cM_isArrow 3 (some .boolean) 2 5 := ⟨tw_3_88, tws_36, tw_3_89, tw_1_6, tw_3_86, (by decide +kernel), rfl⟩
def fM_isJoined (w : x_W) (v0 : Nat) (v1 : Int32) (v2 : Int32) : Option Int32 :=
  (x_ob w v0 5).bind fun _ =>
  (fM_isArrow w v0 v1 v2).bind fun t2 =>
  if t2 = (0 : Int32) then
    (fM_isArrow w v0 v2 v1).bind fun t4 =>
    if t4 = (0 : Int32) then
      some (0 : Int32)
    else
      some (1 : Int32)
  else
    some (1 : Int32)
set_option maxHeartbeats 4000000 in
set_option maxRecDepth 100000 in
theorem mM_isJoined (d : Nat) (hd : 3 ≤ d) {K : Option Value → x_W → Prop} {w : x_W} {v0 : Nat} {v1 : Int32} {v2 : Int32} {r : Int32} (h : fM_isJoined w v0 v1 v2 = some r) (hK : K (some (.int r)) w) : x_M yM_isJoined cM_isJoined 3 (some .boolean) d 0 0 [.ref v0, .int v1, .int v2] w K := by
  refine x_M.of [some (.ref v0), some (.int v1), some (.int v2)] (by decide) rfl (Nat.le_of_ble_eq_true rfl) ?_
  unfold fM_isJoined at h
  refine g_aload_n 1 (i := 0) dM_isJoined_0 rfl rfl rfl ?_
  refine g_iload_n 2 (i := 1) dM_isJoined_1 rfl rfl rfl ?_
  refine g_iload_n 3 (i := 2) dM_isJoined_2 rfl rfl rfl ?_
  obtain ⟨_, e1, h⟩ := x_bind h
  obtain ⟨t2, e2, h⟩ := x_bind h
  refine g_cV 6 (some (.int t2)) w [.int v1, .int v2] [] dM_isJoined_3 rfl (fun _ hK2 => mM_isArrow (d - 1) (by omega) e2 hK2) (x_ob_some e1) kM_70 (x_rm (Nat.le_trans (by decide) hd) (by decide)) ⟨Nat.zero_le _, Nat.zero_le _⟩ (Nat.le_of_ble_eq_true rfl) rfl ?_
  by_cases c3 : t2 = (0 : Int32)
  · rw [if_pos c3] at h
    refine g_if_ne_f 9 18 dM_isJoined_6 (by decide) rfl c3 ?_
    refine g_aload_n 10 (i := 0) dM_isJoined_9 rfl rfl rfl ?_
    refine g_iload_n 11 (i := 2) dM_isJoined_10 rfl rfl rfl ?_
    refine g_iload_n 12 (i := 1) dM_isJoined_11 rfl rfl rfl ?_
    obtain ⟨t4, e4, h⟩ := x_bind h
    refine g_cV 15 (some (.int t4)) w [.int v2, .int v1] [] dM_isJoined_12 rfl (fun _ hK2 => mM_isArrow (d - 1) (by omega) e4 hK2) (x_ob_some e1) kM_70 (x_rm (Nat.le_trans (by decide) hd) (by decide)) ⟨Nat.zero_le _, Nat.zero_le _⟩ (Nat.le_of_ble_eq_true rfl) rfl ?_
    by_cases c5 : t4 = (0 : Int32)
    · rw [if_pos c5] at h
      refine g_if_eq_t 22 dM_isJoined_15 (by decide) c5 ?_
      refine g_iconst 23 (0 : Int32) dM_isJoined_22 rfl (by decide) ?_
      obtain rfl := Option.some.inj h
      exact g_zret rfl (by decide) dM_isJoined_23 hK
    · rw [if_neg c5] at h
      refine g_if_eq_f 18 22 dM_isJoined_15 (by decide) rfl c5 ?_
      refine g_iconst 19 (1 : Int32) dM_isJoined_18 rfl (by decide) ?_
      refine g_goto 23 dM_isJoined_19 (by decide) ?_
      obtain rfl := Option.some.inj h
      exact g_zret rfl (by decide) dM_isJoined_23 hK
  · rw [if_neg c3] at h
    refine g_if_ne_t 18 dM_isJoined_6 (by decide) c3 ?_
    refine g_iconst 19 (1 : Int32) dM_isJoined_18 rfl (by decide) ?_
    refine g_goto 23 dM_isJoined_19 (by decide) ?_
    obtain rfl := Option.some.inj h
    exact g_zret rfl (by decide) dM_isJoined_23 hK
/-! ActSurgeryModel.children(I)I: level P -/
theorem dM_children_0 : decode cM_children 0 = .ok (.iconst 0, 1) := by decide +kernel
theorem dM_children_1 : decode cM_children 1 = .ok (.istore_n 2, 1) := by decide +kernel
theorem dM_children_2 : decode cM_children 2 = .ok (.iconst 0, 1) := by decide +kernel
theorem dM_children_3 : decode cM_children 3 = .ok (.istore_n 3, 1) := by decide +kernel
theorem dM_children_4 : decode cM_children 4 = .ok (.iload_n 3, 1) := by decide +kernel
theorem dM_children_5 : decode cM_children 5 = .ok (.aload_n 0, 1) := by decide +kernel
theorem dM_children_6 : decode cM_children 6 = .ok (.invokevirtual 44, 3) := by decide +kernel
theorem dM_children_9 : decode cM_children 9 = .ok (.if_icmp .ge 28, 3) := by decide +kernel
theorem dM_children_12 : decode cM_children 12 = .ok (.aload_n 0, 1) := by decide +kernel
theorem dM_children_13 : decode cM_children 13 = .ok (.iload_n 1, 1) := by decide +kernel
theorem dM_children_14 : decode cM_children 14 = .ok (.iload_n 3, 1) := by decide +kernel
theorem dM_children_15 : decode cM_children 15 = .ok (.invokevirtual 70, 3) := by decide +kernel
theorem dM_children_18 : decode cM_children 18 = .ok (.ifCond .eq 11, 3) := by decide +kernel
theorem dM_children_21 : decode cM_children 21 = .ok (.iload_n 2, 1) := by decide +kernel
theorem dM_children_22 : decode cM_children 22 = .ok (.iconst 1, 1) := by decide +kernel
theorem dM_children_23 : decode cM_children 23 = .ok (.iload_n 3, 1) := by decide +kernel
theorem dM_children_24 : decode cM_children 24 = .ok (.ishl, 1) := by decide +kernel
theorem dM_children_25 : decode cM_children 25 = .ok (.ior, 1) := by decide +kernel
theorem dM_children_26 : decode cM_children 26 = .ok (.goto 4, 3) := by decide +kernel
theorem dM_children_29 : decode cM_children 29 = .ok (.iload_n 2, 1) := by decide +kernel
theorem dM_children_30 : decode cM_children 30 = .ok (.istore_n 2, 1) := by decide +kernel
theorem dM_children_31 : decode cM_children 31 = .ok (.iinc 3 1, 3) := by decide +kernel
theorem dM_children_34 : decode cM_children 34 = .ok (.goto (-30), 3) := by decide +kernel
theorem dM_children_37 : decode cM_children 37 = .ok (.iload_n 2, 1) := by decide +kernel
theorem dM_children_38 : decode cM_children 38 = .ok (.ireturn, 1) := by decide +kernel
def fM_children_4 (w : x_W) : Nat → Nat → Int32 → Int32 → Int32 → Option Int32
  | 0, _, _, _, _ => none
  | n + 1, v0, v1, v2, v3 =>
    (x_ob w v0 5).bind fun _ =>
    (fM_n w v0).bind fun t2 =>
    if t2 ≤ v3 then
      some v2
    else
      (fM_isArrow w v0 v1 v3).bind fun t4 =>
      if t4 = (0 : Int32) then
        fM_children_4 w n v0 v1 v2 (v3 + (1 : Int32))
      else
        fM_children_4 w n v0 v1 (v2 ||| ((1 : Int32) <<< (v3 &&& 31))) (v3 + (1 : Int32))
def fM_children (w : x_W) (v0 : Nat) (v1 : Int32) : Option Int32 :=
  fM_children_4 w x_F v0 v1 (0 : Int32) (0 : Int32)
set_option maxHeartbeats 4000000 in
set_option maxRecDepth 100000 in
theorem lM_children_4 (d : Nat) (hd : 3 ≤ d) {K : Option Value → x_W → Prop} {r : Int32} {w : x_W} (hK : K (some (.int r)) w) : ∀ (n : Nat) (v0 : Nat) (v1 : Int32) (v2 : Int32) (v3 : Int32), fM_children_4 w n v0 v1 v2 v3 = some r → x_G none yM_children cM_children 4 (some .int) (x_room d 0 0) (x_QM K 0 0) 4 [some (.ref v0), some (.int v1), some (.int v2), some (.int v3)] [] w 0 0 := by
  intro n
  induction n with
  | zero => intro v0 v1 v2 v3 h; rw [fM_children_4] at h; cases h
  | succ n ih =>
    intro v0 v1 v2 v3 h
    rw [fM_children_4] at h
    refine g_iload_n 5 (i := 3) dM_children_4 rfl rfl rfl ?_
    refine g_aload_n 6 (i := 0) dM_children_5 rfl rfl rfl ?_
    obtain ⟨_, e1, h⟩ := x_bind h
    obtain ⟨t2, e2, h⟩ := x_bind h
    refine g_cV 9 (some (.int t2)) w [] [.int v3] dM_children_6 rfl (fun _ hK2 => mM_n (d - 1) (by omega) e2 hK2) (x_ob_some e1) kM_44 (x_rm (Nat.le_trans (by decide) hd) (by decide)) ⟨Nat.zero_le _, Nat.zero_le _⟩ (Nat.le_of_ble_eq_true rfl) rfl ?_
    by_cases c3 : t2 ≤ v3
    · rw [if_pos c3] at h
      refine g_icmp_ge_t 37 dM_children_9 (by decide) c3 ?_
      refine g_iload_n 38 (i := 2) dM_children_37 rfl rfl rfl ?_
      obtain rfl := Option.some.inj h
      exact g_iret rfl dM_children_38 hK
    · rw [if_neg c3] at h
      refine g_icmp_ge_f 12 37 dM_children_9 (by decide) rfl c3 ?_
      refine g_aload_n 13 (i := 0) dM_children_12 rfl rfl rfl ?_
      refine g_iload_n 14 (i := 1) dM_children_13 rfl rfl rfl ?_
      refine g_iload_n 15 (i := 3) dM_children_14 rfl rfl rfl ?_
      obtain ⟨t4, e4, h⟩ := x_bind h
      refine g_cV 18 (some (.int t4)) w [.int v1, .int v3] [] dM_children_15 rfl (fun _ hK2 => mM_isArrow (d - 1) (by omega) e4 hK2) (x_ob_some e1) kM_70 (x_rm (Nat.le_trans (by decide) hd) (by decide)) ⟨Nat.zero_le _, Nat.zero_le _⟩ (Nat.le_of_ble_eq_true rfl) rfl ?_
      by_cases c5 : t4 = (0 : Int32)
      · rw [if_pos c5] at h
        refine g_if_eq_t 29 dM_children_18 (by decide) c5 ?_
        refine g_iload_n 30 (i := 2) dM_children_29 rfl rfl rfl ?_
        refine g_istore_n 31 (i := 2) [some (.ref v0), some (.int v1), some (.int v2), some (.int v3)] dM_children_30 rfl rfl rfl (by decide) ?_
        refine g_iinc 34 [some (.ref v0), some (.int v1), some (.int v2), some (.int (v3 + (1 : Int32)))] dM_children_31 rfl rfl (x_inc (1 : Int32) (by decide)) rfl (by decide) ?_
        refine g_goto 4 dM_children_34 (by decide) ?_
        exact ih _ _ _ _ h
      · rw [if_neg c5] at h
        refine g_if_eq_f 21 29 dM_children_18 (by decide) rfl c5 ?_
        refine g_iload_n 22 (i := 2) dM_children_21 rfl rfl rfl ?_
        refine g_iconst 23 (1 : Int32) dM_children_22 rfl (by decide) ?_
        refine g_iload_n 24 (i := 3) dM_children_23 rfl rfl rfl ?_
        refine g_ishl 25 dM_children_24 rfl ?_
        refine g_ior 26 dM_children_25 rfl ?_
        refine g_goto 30 dM_children_26 (by decide) ?_
        refine g_istore_n 31 (i := 2) [some (.ref v0), some (.int v1), some (.int (v2 ||| ((1 : Int32) <<< (v3 &&& 31)))), some (.int v3)] dM_children_30 rfl rfl rfl (by decide) ?_
        refine g_iinc 34 [some (.ref v0), some (.int v1), some (.int (v2 ||| ((1 : Int32) <<< (v3 &&& 31)))), some (.int (v3 + (1 : Int32)))] dM_children_31 rfl rfl (x_inc (1 : Int32) (by decide)) rfl (by decide) ?_
        refine g_goto 4 dM_children_34 (by decide) ?_
        exact ih _ _ _ _ h
set_option maxHeartbeats 4000000 in
set_option maxRecDepth 100000 in
theorem mM_children (d : Nat) (hd : 3 ≤ d) {K : Option Value → x_W → Prop} {w : x_W} {v0 : Nat} {v1 : Int32} {r : Int32} (h : fM_children w v0 v1 = some r) (hK : K (some (.int r)) w) : x_M yM_children cM_children 4 (some .int) d 0 0 [.ref v0, .int v1] w K := by
  refine x_M.of [some (.ref v0), some (.int v1), none, none] (by decide) rfl (Nat.le_of_ble_eq_true rfl) ?_
  unfold fM_children at h
  refine g_iconst 1 (0 : Int32) dM_children_0 rfl (by decide) ?_
  refine g_istore_n 2 (i := 2) [some (.ref v0), some (.int v1), some (.int (0 : Int32)), none] dM_children_1 rfl rfl rfl (by decide) ?_
  refine g_iconst 3 (0 : Int32) dM_children_2 rfl (by decide) ?_
  refine g_istore_n 4 (i := 3) [some (.ref v0), some (.int v1), some (.int (0 : Int32)), some (.int (0 : Int32))] dM_children_3 rfl rfl rfl (by decide) ?_
  exact lM_children_4 d hd hK x_F _ _ _ _ h
/-! ActSurgeryModel.reach(II)I: level P -/
theorem dM_reach_0 : decode cM_reach 0 = .ok (.aload_n 0, 1) := by decide +kernel
theorem dM_reach_1 : decode cM_reach 1 = .ok (.iload_n 1, 1) := by decide +kernel
theorem dM_reach_2 : decode cM_reach 2 = .ok (.invokevirtual 73, 3) := by decide +kernel
theorem dM_reach_5 : decode cM_reach 5 = .ok (.istore_n 3, 1) := by decide +kernel
theorem dM_reach_6 : decode cM_reach 6 = .ok (.iconst 0, 1) := by decide +kernel
theorem dM_reach_7 : decode cM_reach 7 = .ok (.istore 4, 2) := by decide +kernel
theorem dM_reach_9 : decode cM_reach 9 = .ok (.iload_n 3, 1) := by decide +kernel
theorem dM_reach_10 : decode cM_reach 10 = .ok (.iload 4, 2) := by decide +kernel
theorem dM_reach_12 : decode cM_reach 12 = .ok (.if_icmp .eq 59, 3) := by decide +kernel
theorem dM_reach_15 : decode cM_reach 15 = .ok (.iload_n 3, 1) := by decide +kernel
theorem dM_reach_16 : decode cM_reach 16 = .ok (.istore 4, 2) := by decide +kernel
theorem dM_reach_18 : decode cM_reach 18 = .ok (.iconst 0, 1) := by decide +kernel
theorem dM_reach_19 : decode cM_reach 19 = .ok (.istore 5, 2) := by decide +kernel
theorem dM_reach_21 : decode cM_reach 21 = .ok (.iload 5, 2) := by decide +kernel
theorem dM_reach_23 : decode cM_reach 23 = .ok (.aload_n 0, 1) := by decide +kernel
theorem dM_reach_24 : decode cM_reach 24 = .ok (.invokevirtual 44, 3) := by decide +kernel
theorem dM_reach_27 : decode cM_reach 27 = .ok (.if_icmp .ge 41, 3) := by decide +kernel
theorem dM_reach_30 : decode cM_reach 30 = .ok (.iload 4, 2) := by decide +kernel
theorem dM_reach_32 : decode cM_reach 32 = .ok (.iload 5, 2) := by decide +kernel
theorem dM_reach_34 : decode cM_reach 34 = .ok (.invokestatic 62, 3) := by decide +kernel
theorem dM_reach_37 : decode cM_reach 37 = .ok (.ifCond .eq 23, 3) := by decide +kernel
theorem dM_reach_40 : decode cM_reach 40 = .ok (.iload_n 2, 1) := by decide +kernel
theorem dM_reach_41 : decode cM_reach 41 = .ok (.iload 5, 2) := by decide +kernel
theorem dM_reach_43 : decode cM_reach 43 = .ok (.invokestatic 62, 3) := by decide +kernel
theorem dM_reach_46 : decode cM_reach 46 = .ok (.ifCond .eq 14, 3) := by decide +kernel
theorem dM_reach_49 : decode cM_reach 49 = .ok (.iload_n 3, 1) := by decide +kernel
theorem dM_reach_50 : decode cM_reach 50 = .ok (.aload_n 0, 1) := by decide +kernel
theorem dM_reach_51 : decode cM_reach 51 = .ok (.iload 5, 2) := by decide +kernel
theorem dM_reach_53 : decode cM_reach 53 = .ok (.invokevirtual 73, 3) := by decide +kernel
theorem dM_reach_56 : decode cM_reach 56 = .ok (.ior, 1) := by decide +kernel
theorem dM_reach_57 : decode cM_reach 57 = .ok (.goto 4, 3) := by decide +kernel
theorem dM_reach_60 : decode cM_reach 60 = .ok (.iload_n 3, 1) := by decide +kernel
theorem dM_reach_61 : decode cM_reach 61 = .ok (.istore_n 3, 1) := by decide +kernel
theorem dM_reach_62 : decode cM_reach 62 = .ok (.iinc 5 1, 3) := by decide +kernel
theorem dM_reach_65 : decode cM_reach 65 = .ok (.goto (-44), 3) := by decide +kernel
theorem dM_reach_68 : decode cM_reach 68 = .ok (.goto (-59), 3) := by decide +kernel
theorem dM_reach_71 : decode cM_reach 71 = .ok (.iload_n 3, 1) := by decide +kernel
theorem dM_reach_72 : decode cM_reach 72 = .ok (.ireturn, 1) := by decide +kernel
theorem tw_3_104 : (Jvm.Cond.instanceMethod ({ cls := "ActSurgeryModel", name := "children", desc := "(I)I" } : Jvm.MethodName)) ∈ x_GT := x_t3 104 rfl rfl
theorem tws_40 : (Jvm.Cond.selects "ActSurgeryModel" ({ cls := "ActSurgeryModel", name := "children", desc := "(I)I" } : Jvm.MethodName) ({ cls := "ActSurgeryModel", name := "children", desc := "(I)I" } : Jvm.MethodName)) ∈ x_GT := x_ts 40 rfl rfl
theorem tw_3_105 : (Jvm.Cond.code ({ cls := "ActSurgeryModel", name := "children", desc := "(I)I" } : Jvm.MethodName) prog_7_method_17_code (4 : Nat) (Option.some Jvm.ClassFile.FieldType.int)) ∈ x_GT := x_t3 105 rfl rfl
theorem tw_3_102 : (Jvm.Cond.methodLink "ActSurgeryModel" (73 : Nat) ({ cls := "ActSurgeryModel", name := "children", desc := "(I)I" } : Jvm.MethodName)) ∈ x_GT := x_t3 102 rfl rfl
theorem kM_73 : x_kV "ActSurgeryModel" 73 yM_children cM_children 4 (some .int) 1 5 := ⟨tw_3_104, tws_40, tw_3_105, tw_1_6, tw_3_102, (by decide +kernel), rfl⟩
def fM_reach_21 (w : x_W) (k9 : Nat → Int32 → Int32 → Int32 → Option Int32) : Nat → Nat → Int32 → Int32 → Int32 → Int32 → Option Int32
  | 0, _, _, _, _, _ => none
  | n + 1, v0, v2, v3, v4, v5 =>
    (x_ob w v0 5).bind fun _ =>
    (fM_n w v0).bind fun t2 =>
    if t2 ≤ v5 then
      k9 v0 v2 v3 v4
    else
      if (fM_has v4 v5) = (0 : Int32) then
        fM_reach_21 w k9 n v0 v2 v3 v4 (v5 + (1 : Int32))
      else
        if (fM_has v2 v5) = (0 : Int32) then
          fM_reach_21 w k9 n v0 v2 v3 v4 (v5 + (1 : Int32))
        else
          (fM_children w v0 v5).bind fun t6 =>
          fM_reach_21 w k9 n v0 v2 (v3 ||| t6) v4 (v5 + (1 : Int32))
def fM_reach_9 (w : x_W) : Nat → Nat → Int32 → Int32 → Int32 → Option Int32
  | 0, _, _, _, _ => none
  | n + 1, v0, v2, v3, v4 =>
    if v3 = v4 then
      some v3
    else
      fM_reach_21 w (fM_reach_9 w n) x_F v0 v2 v3 v3 (0 : Int32)
def fM_reach (w : x_W) (v0 : Nat) (v1 : Int32) (v2 : Int32) : Option Int32 :=
  (x_ob w v0 5).bind fun _ =>
  (fM_children w v0 v1).bind fun t2 =>
  fM_reach_9 w x_F v0 v2 t2 (0 : Int32)
set_option maxHeartbeats 4000000 in
set_option maxRecDepth 100000 in
theorem lM_reach_21 (d : Nat) (hd : 4 ≤ d) {K : Option Value → x_W → Prop} {r : Int32} {w : x_W} (hK : K (some (.int r)) w) {k9 : Nat → Int32 → Int32 → Int32 → Option Int32} (hk9 : ∀ (v0 : Nat) (v2 : Int32) (v3 : Int32) (v4 : Int32), k9 v0 v2 v3 v4 = some r → x_G none yM_reach cM_reach 6 (some .int) (x_room d 0 0) (x_QM K 0 0) 9 [some (.ref v0), none, some (.int v2), some (.int v3), some (.int v4), none] [] w 0 0) : ∀ (n : Nat) (v0 : Nat) (v2 : Int32) (v3 : Int32) (v4 : Int32) (v5 : Int32), fM_reach_21 w k9 n v0 v2 v3 v4 v5 = some r → x_G none yM_reach cM_reach 6 (some .int) (x_room d 0 0) (x_QM K 0 0) 21 [some (.ref v0), none, some (.int v2), some (.int v3), some (.int v4), some (.int v5)] [] w 0 0 := by
  intro n
  induction n with
  | zero => intro v0 v2 v3 v4 v5 h; rw [fM_reach_21] at h; cases h
  | succ n ih =>
    intro v0 v2 v3 v4 v5 h
    rw [fM_reach_21] at h
    refine g_iload 23 dM_reach_21 rfl rfl ?_
    refine g_aload_n 24 (i := 0) dM_reach_23 rfl rfl rfl ?_
    obtain ⟨_, e1, h⟩ := x_bind h
    obtain ⟨t2, e2, h⟩ := x_bind h
    refine g_cV 27 (some (.int t2)) w [] [.int v5] dM_reach_24 rfl (fun _ hK2 => mM_n (d - 1) (by omega) e2 hK2) (x_ob_some e1) kM_44 (x_rm (Nat.le_trans (by decide) hd) (by decide)) ⟨Nat.zero_le _, Nat.zero_le _⟩ (Nat.le_of_ble_eq_true rfl) rfl ?_
    by_cases c3 : t2 ≤ v5
    · rw [if_pos c3] at h
      refine g_icmp_ge_t 68 dM_reach_27 (by decide) c3 ?_
      refine g_goto 9 dM_reach_68 (by decide) ?_
      refine g_less [some (.ref v0), none, some (.int v2), some (.int v3), some (.int v4), none] ⟨rfl, rfl, rfl, rfl, trivial⟩ ?_
      exact hk9 _ _ _ _ h
    · rw [if_neg c3] at h
      refine g_icmp_ge_f 30 68 dM_reach_27 (by decide) rfl c3 ?_
      refine g_iload 32 dM_reach_30 rfl rfl ?_
      refine g_iload 34 dM_reach_32 rfl rfl ?_
      refine g_cS 37 (some (.int (fM_has v4 v5))) w [.int v4, .int v5] [] dM_reach_34 rfl (fun _ hK2 => mM_has (d - 1) (by omega) rfl hK2) kM_62 (x_rm (Nat.le_trans (by decide) hd) (by decide)) ⟨Nat.zero_le _, Nat.zero_le _⟩ (Nat.le_of_ble_eq_true rfl) rfl ?_
      by_cases c4 : (fM_has v4 v5) = (0 : Int32)
      · rw [if_pos c4] at h
        refine g_if_eq_t 60 dM_reach_37 (by decide) c4 ?_
        refine g_iload_n 61 (i := 3) dM_reach_60 rfl rfl rfl ?_
        refine g_istore_n 62 (i := 3) [some (.ref v0), none, some (.int v2), some (.int v3), some (.int v4), some (.int v5)] dM_reach_61 rfl rfl rfl (by decide) ?_
        refine g_iinc 65 [some (.ref v0), none, some (.int v2), some (.int v3), some (.int v4), some (.int (v5 + (1 : Int32)))] dM_reach_62 rfl rfl (x_inc (1 : Int32) (by decide)) rfl (by decide) ?_
        refine g_goto 21 dM_reach_65 (by decide) ?_
        exact ih _ _ _ _ _ h
      · rw [if_neg c4] at h
        refine g_if_eq_f 40 60 dM_reach_37 (by decide) rfl c4 ?_
        refine g_iload_n 41 (i := 2) dM_reach_40 rfl rfl rfl ?_
        refine g_iload 43 dM_reach_41 rfl rfl ?_
        refine g_cS 46 (some (.int (fM_has v2 v5))) w [.int v2, .int v5] [] dM_reach_43 rfl (fun _ hK2 => mM_has (d - 1) (by omega) rfl hK2) kM_62 (x_rm (Nat.le_trans (by decide) hd) (by decide)) ⟨Nat.zero_le _, Nat.zero_le _⟩ (Nat.le_of_ble_eq_true rfl) rfl ?_
        by_cases c5 : (fM_has v2 v5) = (0 : Int32)
        · rw [if_pos c5] at h
          refine g_if_eq_t 60 dM_reach_46 (by decide) c5 ?_
          refine g_iload_n 61 (i := 3) dM_reach_60 rfl rfl rfl ?_
          refine g_istore_n 62 (i := 3) [some (.ref v0), none, some (.int v2), some (.int v3), some (.int v4), some (.int v5)] dM_reach_61 rfl rfl rfl (by decide) ?_
          refine g_iinc 65 [some (.ref v0), none, some (.int v2), some (.int v3), some (.int v4), some (.int (v5 + (1 : Int32)))] dM_reach_62 rfl rfl (x_inc (1 : Int32) (by decide)) rfl (by decide) ?_
          refine g_goto 21 dM_reach_65 (by decide) ?_
          exact ih _ _ _ _ _ h
        · rw [if_neg c5] at h
          refine g_if_eq_f 49 60 dM_reach_46 (by decide) rfl c5 ?_
          refine g_iload_n 50 (i := 3) dM_reach_49 rfl rfl rfl ?_
          refine g_aload_n 51 (i := 0) dM_reach_50 rfl rfl rfl ?_
          refine g_iload 53 dM_reach_51 rfl rfl ?_
          obtain ⟨t6, e6, h⟩ := x_bind h
          refine g_cV 56 (some (.int t6)) w [.int v5] [.int v3] dM_reach_53 rfl (fun _ hK2 => mM_children (d - 1) (by omega) e6 hK2) (x_ob_some e1) kM_73 (x_rm (Nat.le_trans (by decide) hd) (by decide)) ⟨Nat.zero_le _, Nat.zero_le _⟩ (Nat.le_of_ble_eq_true rfl) rfl ?_
          refine g_ior 57 dM_reach_56 rfl ?_
          refine g_goto 61 dM_reach_57 (by decide) ?_
          refine g_istore_n 62 (i := 3) [some (.ref v0), none, some (.int v2), some (.int (v3 ||| t6)), some (.int v4), some (.int v5)] dM_reach_61 rfl rfl rfl (by decide) ?_
          refine g_iinc 65 [some (.ref v0), none, some (.int v2), some (.int (v3 ||| t6)), some (.int v4), some (.int (v5 + (1 : Int32)))] dM_reach_62 rfl rfl (x_inc (1 : Int32) (by decide)) rfl (by decide) ?_
          refine g_goto 21 dM_reach_65 (by decide) ?_
          exact ih _ _ _ _ _ h
set_option maxHeartbeats 4000000 in
set_option maxRecDepth 100000 in
theorem lM_reach_9 (d : Nat) (hd : 4 ≤ d) {K : Option Value → x_W → Prop} {r : Int32} {w : x_W} (hK : K (some (.int r)) w) : ∀ (n : Nat) (v0 : Nat) (v2 : Int32) (v3 : Int32) (v4 : Int32), fM_reach_9 w n v0 v2 v3 v4 = some r → x_G none yM_reach cM_reach 6 (some .int) (x_room d 0 0) (x_QM K 0 0) 9 [some (.ref v0), none, some (.int v2), some (.int v3), some (.int v4), none] [] w 0 0 := by
  intro n
  induction n with
  | zero => intro v0 v2 v3 v4 h; rw [fM_reach_9] at h; cases h
  | succ n ih =>
    intro v0 v2 v3 v4 h
    rw [fM_reach_9] at h
    refine g_iload_n 10 (i := 3) dM_reach_9 rfl rfl rfl ?_
    refine g_iload 12 dM_reach_10 rfl rfl ?_
    by_cases c1 : v3 = v4
    · rw [if_pos c1] at h
      refine g_icmp_eq_t 71 dM_reach_12 (by decide) c1 ?_
      refine g_iload_n 72 (i := 3) dM_reach_71 rfl rfl rfl ?_
      obtain rfl := Option.some.inj h
      exact g_iret rfl dM_reach_72 hK
    · rw [if_neg c1] at h
      refine g_icmp_eq_f 15 71 dM_reach_12 (by decide) rfl c1 ?_
      refine g_iload_n 16 (i := 3) dM_reach_15 rfl rfl rfl ?_
      refine g_istore 18 [some (.ref v0), none, some (.int v2), some (.int v3), some (.int v3), none] dM_reach_16 rfl rfl (by decide) ?_
      refine g_iconst 19 (0 : Int32) dM_reach_18 rfl (by decide) ?_
      refine g_istore 21 [some (.ref v0), none, some (.int v2), some (.int v3), some (.int v3), some (.int (0 : Int32))] dM_reach_19 rfl rfl (by decide) ?_
      exact lM_reach_21 d hd hK (fun _ _ _ _ hz => ih _ _ _ _ hz) x_F _ _ _ _ _ h
set_option maxHeartbeats 4000000 in
set_option maxRecDepth 100000 in
theorem mM_reach (d : Nat) (hd : 4 ≤ d) {K : Option Value → x_W → Prop} {w : x_W} {v0 : Nat} {v1 : Int32} {v2 : Int32} {r : Int32} (h : fM_reach w v0 v1 v2 = some r) (hK : K (some (.int r)) w) : x_M yM_reach cM_reach 6 (some .int) d 0 0 [.ref v0, .int v1, .int v2] w K := by
  refine x_M.of [some (.ref v0), some (.int v1), some (.int v2), none, none, none] (by decide) rfl (Nat.le_of_ble_eq_true rfl) ?_
  unfold fM_reach at h
  refine g_aload_n 1 (i := 0) dM_reach_0 rfl rfl rfl ?_
  refine g_iload_n 2 (i := 1) dM_reach_1 rfl rfl rfl ?_
  obtain ⟨_, e1, h⟩ := x_bind h
  obtain ⟨t2, e2, h⟩ := x_bind h
  refine g_cV 5 (some (.int t2)) w [.int v1] [] dM_reach_2 rfl (fun _ hK2 => mM_children (d - 1) (by omega) e2 hK2) (x_ob_some e1) kM_73 (x_rm (Nat.le_trans (by decide) hd) (by decide)) ⟨Nat.zero_le _, Nat.zero_le _⟩ (Nat.le_of_ble_eq_true rfl) rfl ?_
  refine g_istore_n 6 (i := 3) [some (.ref v0), some (.int v1), some (.int v2), some (.int t2), none, none] dM_reach_5 rfl rfl rfl (by decide) ?_
  refine g_iconst 7 (0 : Int32) dM_reach_6 rfl (by decide) ?_
  refine g_istore 9 [some (.ref v0), some (.int v1), some (.int v2), some (.int t2), some (.int (0 : Int32)), none] dM_reach_7 rfl rfl (by decide) ?_
  refine g_less [some (.ref v0), none, some (.int v2), some (.int t2), some (.int (0 : Int32)), none] ⟨rfl, rfl, rfl, rfl, trivial⟩ ?_
  exact lM_reach_9 d hd hK x_F _ _ _ _ h
/-! ActSurgeryModel.after(I)I: level P -/
theorem dM_after_0 : decode cM_after 0 = .ok (.aload_n 0, 1) := by decide +kernel
theorem dM_after_1 : decode cM_after 1 = .ok (.iload_n 1, 1) := by decide +kernel
theorem dM_after_2 : decode cM_after 2 = .ok (.aload_n 0, 1) := by decide +kernel
theorem dM_after_3 : decode cM_after 3 = .ok (.invokevirtual 52, 3) := by decide +kernel
theorem dM_after_6 : decode cM_after 6 = .ok (.invokevirtual 77, 3) := by decide +kernel
theorem dM_after_9 : decode cM_after 9 = .ok (.ireturn, 1) := by decide +kernel
theorem tw_3_100 : (Jvm.Cond.instanceMethod ({ cls := "ActSurgeryModel", name := "reach", desc := "(II)I" } : Jvm.MethodName)) ∈ x_GT := x_t3 100 rfl rfl
theorem tws_39 : (Jvm.Cond.selects "ActSurgeryModel" ({ cls := "ActSurgeryModel", name := "reach", desc := "(II)I" } : Jvm.MethodName) ({ cls := "ActSurgeryModel", name := "reach", desc := "(II)I" } : Jvm.MethodName)) ∈ x_GT := x_ts 39 rfl rfl
theorem tw_3_101 : (Jvm.Cond.code ({ cls := "ActSurgeryModel", name := "reach", desc := "(II)I" } : Jvm.MethodName) prog_7_method_18_code (6 : Nat) (Option.some Jvm.ClassFile.FieldType.int)) ∈ x_GT := x_t3 101 rfl rfl
theorem tw_3_98 : (Jvm.Cond.methodLink "ActSurgeryModel" (77 : Nat) ({ cls := "ActSurgeryModel", name := "reach", desc := "(II)I" } : Jvm.MethodName)) ∈ x_GT := x_t3 98 rfl rfl
theorem kM_77 : x_kV "ActSurgeryModel" 77 yM_reach cM_reach 6 (some .int) 2 5 := ⟨tw_3_100, tws_39, tw_3_101, tw_1_6, tw_3_98, (by decide +kernel), rfl⟩
def fM_after (w : x_W) (v0 : Nat) (v1 : Int32) : Option Int32 :=
  (x_ob w v0 5).bind fun _ =>
  (fM_all w v0).bind fun t2 =>
  (fM_reach w v0 v1 t2).bind fun t3 =>
  some t3
set_option maxHeartbeats 4000000 in
set_option maxRecDepth 100000 in
theorem mM_after (d : Nat) (hd : 5 ≤ d) {K : Option Value → x_W → Prop} {w : x_W} {v0 : Nat} {v1 : Int32} {r : Int32} (h : fM_after w v0 v1 = some r) (hK : K (some (.int r)) w) : x_M yM_after cM_after 2 (some .int) d 0 0 [.ref v0, .int v1] w K := by
  refine x_M.of [some (.ref v0), some (.int v1)] (by decide) rfl (Nat.le_of_ble_eq_true rfl) ?_
  unfold fM_after at h
  refine g_aload_n 1 (i := 0) dM_after_0 rfl rfl rfl ?_
  refine g_iload_n 2 (i := 1) dM_after_1 rfl rfl rfl ?_
  refine g_aload_n 3 (i := 0) dM_after_2 rfl rfl rfl ?_
  obtain ⟨_, e1, h⟩ := x_bind h
  obtain ⟨t2, e2, h⟩ := x_bind h
  refine g_cV 6 (some (.int t2)) w [] [.int v1, .ref v0] dM_after_3 rfl (fun _ hK2 => mM_all (d - 1) (by omega) e2 hK2) (x_ob_some e1) kM_52 (x_rm (Nat.le_trans (by decide) hd) (by decide)) ⟨Nat.zero_le _, Nat.zero_le _⟩ (Nat.le_of_ble_eq_true rfl) rfl ?_
  obtain ⟨t3, e3, h⟩ := x_bind h
  refine g_cV 9 (some (.int t3)) w [.int v1, .int t2] [] dM_after_6 rfl (fun _ hK2 => mM_reach (d - 1) (by omega) e3 hK2) (x_ob_some e1) kM_77 (x_rm (Nat.le_trans (by decide) hd) (by decide)) ⟨Nat.zero_le _, Nat.zero_le _⟩ (Nat.le_of_ble_eq_true rfl) rfl ?_
  obtain rfl := Option.some.inj h
  exact g_iret rfl dM_after_9 hK
/-! ActSurgeryModel.isOpen(II)Z: level P -/
theorem dM_isOpen_0 : decode cM_isOpen 0 = .ok (.iconst 1, 1) := by decide +kernel
theorem dM_isOpen_1 : decode cM_isOpen 1 = .ok (.istore_n 3, 1) := by decide +kernel
theorem dM_isOpen_2 : decode cM_isOpen 2 = .ok (.iconst 1, 1) := by decide +kernel
theorem dM_isOpen_3 : decode cM_isOpen 3 = .ok (.istore 4, 2) := by decide +kernel
theorem dM_isOpen_5 : decode cM_isOpen 5 = .ok (.iload 4, 2) := by decide +kernel
theorem dM_isOpen_7 : decode cM_isOpen 7 = .ok (.iconst 1, 1) := by decide +kernel
theorem dM_isOpen_8 : decode cM_isOpen 8 = .ok (.iadd, 1) := by decide +kernel
theorem dM_isOpen_9 : decode cM_isOpen 9 = .ok (.iload_n 1, 1) := by decide +kernel
theorem dM_isOpen_10 : decode cM_isOpen 10 = .ok (.if_icmp .ge 113, 3) := by decide +kernel
theorem dM_isOpen_13 : decode cM_isOpen 13 = .ok (.iload_n 3, 1) := by decide +kernel
theorem dM_isOpen_14 : decode cM_isOpen 14 = .ok (.ifCond .eq 109, 3) := by decide +kernel
theorem dM_isOpen_17 : decode cM_isOpen 17 = .ok (.aload_n 0, 1) := by decide +kernel
theorem dM_isOpen_18 : decode cM_isOpen 18 = .ok (.getfield 22, 3) := by decide +kernel
theorem dM_isOpen_21 : decode cM_isOpen 21 = .ok (.iload 4, 2) := by decide +kernel
theorem dM_isOpen_23 : decode cM_isOpen 23 = .ok (.iaload, 1) := by decide +kernel
theorem dM_isOpen_24 : decode cM_isOpen 24 = .ok (.istore 5, 2) := by decide +kernel
theorem dM_isOpen_26 : decode cM_isOpen 26 = .ok (.aload_n 0, 1) := by decide +kernel
theorem dM_isOpen_27 : decode cM_isOpen 27 = .ok (.aload_n 0, 1) := by decide +kernel
theorem dM_isOpen_28 : decode cM_isOpen 28 = .ok (.getfield 22, 3) := by decide +kernel
theorem dM_isOpen_31 : decode cM_isOpen 31 = .ok (.iload 4, 2) := by decide +kernel
theorem dM_isOpen_33 : decode cM_isOpen 33 = .ok (.iconst 1, 1) := by decide +kernel
theorem dM_isOpen_34 : decode cM_isOpen 34 = .ok (.isub, 1) := by decide +kernel
theorem dM_isOpen_35 : decode cM_isOpen 35 = .ok (.iaload, 1) := by decide +kernel
theorem dM_isOpen_36 : decode cM_isOpen 36 = .ok (.iload 5, 2) := by decide +kernel
theorem dM_isOpen_38 : decode cM_isOpen 38 = .ok (.invokevirtual 70, 3) := by decide +kernel
theorem dM_isOpen_41 : decode cM_isOpen 41 = .ok (.ifCond .eq 25, 3) := by decide +kernel
theorem dM_isOpen_44 : decode cM_isOpen 44 = .ok (.aload_n 0, 1) := by decide +kernel
theorem dM_isOpen_45 : decode cM_isOpen 45 = .ok (.aload_n 0, 1) := by decide +kernel
theorem dM_isOpen_46 : decode cM_isOpen 46 = .ok (.getfield 22, 3) := by decide +kernel
theorem dM_isOpen_49 : decode cM_isOpen 49 = .ok (.iload 4, 2) := by decide +kernel
theorem dM_isOpen_51 : decode cM_isOpen 51 = .ok (.iconst 1, 1) := by decide +kernel
theorem dM_isOpen_52 : decode cM_isOpen 52 = .ok (.iadd, 1) := by decide +kernel
theorem dM_isOpen_53 : decode cM_isOpen 53 = .ok (.iaload, 1) := by decide +kernel
theorem dM_isOpen_54 : decode cM_isOpen 54 = .ok (.iload 5, 2) := by decide +kernel
theorem dM_isOpen_56 : decode cM_isOpen 56 = .ok (.invokevirtual 70, 3) := by decide +kernel
theorem dM_isOpen_59 : decode cM_isOpen 59 = .ok (.ifCond .eq 7, 3) := by decide +kernel
theorem dM_isOpen_62 : decode cM_isOpen 62 = .ok (.iconst 1, 1) := by decide +kernel
theorem dM_isOpen_63 : decode cM_isOpen 63 = .ok (.goto 4, 3) := by decide +kernel
theorem dM_isOpen_66 : decode cM_isOpen 66 = .ok (.iconst 0, 1) := by decide +kernel
theorem dM_isOpen_67 : decode cM_isOpen 67 = .ok (.istore 6, 2) := by decide +kernel
theorem dM_isOpen_69 : decode cM_isOpen 69 = .ok (.iload_n 2, 1) := by decide +kernel
theorem dM_isOpen_70 : decode cM_isOpen 70 = .ok (.iload 5, 2) := by decide +kernel
theorem dM_isOpen_72 : decode cM_isOpen 72 = .ok (.invokestatic 62, 3) := by decide +kernel
theorem dM_isOpen_75 : decode cM_isOpen 75 = .ok (.istore 7, 2) := by decide +kernel
theorem dM_isOpen_77 : decode cM_isOpen 77 = .ok (.iload 6, 2) := by decide +kernel
theorem dM_isOpen_79 : decode cM_isOpen 79 = .ok (.ifCond .eq 27, 3) := by decide +kernel
theorem dM_isOpen_82 : decode cM_isOpen 82 = .ok (.iload 7, 2) := by decide +kernel
theorem dM_isOpen_84 : decode cM_isOpen 84 = .ok (.ifCond .ne 14, 3) := by decide +kernel
theorem dM_isOpen_87 : decode cM_isOpen 87 = .ok (.aload_n 0, 1) := by decide +kernel
theorem dM_isOpen_88 : decode cM_isOpen 88 = .ok (.iload 5, 2) := by decide +kernel
theorem dM_isOpen_90 : decode cM_isOpen 90 = .ok (.invokevirtual 81, 3) := by decide +kernel
theorem dM_isOpen_93 : decode cM_isOpen 93 = .ok (.iload_n 2, 1) := by decide +kernel
theorem dM_isOpen_94 : decode cM_isOpen 94 = .ok (.iand, 1) := by decide +kernel
theorem dM_isOpen_95 : decode cM_isOpen 95 = .ok (.ifCond .eq 7, 3) := by decide +kernel
theorem dM_isOpen_98 : decode cM_isOpen 98 = .ok (.iconst 1, 1) := by decide +kernel
theorem dM_isOpen_99 : decode cM_isOpen 99 = .ok (.goto 17, 3) := by decide +kernel
theorem dM_isOpen_102 : decode cM_isOpen 102 = .ok (.iconst 0, 1) := by decide +kernel
theorem dM_isOpen_103 : decode cM_isOpen 103 = .ok (.goto 13, 3) := by decide +kernel
theorem dM_isOpen_106 : decode cM_isOpen 106 = .ok (.iload 7, 2) := by decide +kernel
theorem dM_isOpen_108 : decode cM_isOpen 108 = .ok (.ifCond .ne 7, 3) := by decide +kernel
theorem dM_isOpen_111 : decode cM_isOpen 111 = .ok (.iconst 1, 1) := by decide +kernel
theorem dM_isOpen_112 : decode cM_isOpen 112 = .ok (.goto 4, 3) := by decide +kernel
theorem dM_isOpen_115 : decode cM_isOpen 115 = .ok (.iconst 0, 1) := by decide +kernel
theorem dM_isOpen_116 : decode cM_isOpen 116 = .ok (.istore_n 3, 1) := by decide +kernel
theorem dM_isOpen_117 : decode cM_isOpen 117 = .ok (.iinc 4 1, 3) := by decide +kernel
theorem dM_isOpen_120 : decode cM_isOpen 120 = .ok (.goto (-115), 3) := by decide +kernel
theorem dM_isOpen_123 : decode cM_isOpen 123 = .ok (.iload_n 3, 1) := by decide +kernel
theorem dM_isOpen_124 : decode cM_isOpen 124 = .ok (.ireturn, 1) := by decide +kernel
theorem tw_3_96 : (Jvm.Cond.instanceMethod ({ cls := "ActSurgeryModel", name := "after", desc := "(I)I" } : Jvm.MethodName)) ∈ x_GT := x_t3 96 rfl rfl
theorem tws_38 : (Jvm.Cond.selects "ActSurgeryModel" ({ cls := "ActSurgeryModel", name := "after", desc := "(I)I" } : Jvm.MethodName) ({ cls := "ActSurgeryModel", name := "after", desc := "(I)I" } : Jvm.MethodName)) ∈ x_GT := x_ts 38 rfl rfl
theorem tw_3_97 : (Jvm.Cond.code ({ cls := "ActSurgeryModel", name := "after", desc := "(I)I" } : Jvm.MethodName) prog_7_method_19_code (2 : Nat) (Option.some Jvm.ClassFile.FieldType.int)) ∈ x_GT := x_t3 97 rfl rfl
theorem tw_3_94 : (Jvm.Cond.methodLink "ActSurgeryModel" (81 : Nat) ({ cls := "ActSurgeryModel", name := "after", desc := "(I)I" } : Jvm.MethodName)) ∈ x_GT := x_t3 94 rfl rfl
theorem kM_81 : x_kV "ActSurgeryModel" 81 yM_after cM_after 2 (some .int) 1 5 := ⟨tw_3_96, tws_38, tw_3_97, tw_1_6, tw_3_94, (by decide +kernel), rfl⟩
def fM_isOpen_5 (w : x_W) : Nat → Nat → Int32 → Int32 → Int32 → Int32 → Option Int32
  | 0, _, _, _, _, _ => none
  | n + 1, v0, v1, v2, v3, v4 =>
    if v1 ≤ (v4 + (1 : Int32)) then
      if v3 = 0 ∨ v3 = 1 then some v3 else none
    else
      if v3 = (0 : Int32) then
        if v3 = 0 ∨ v3 = 1 then some v3 else none
      else
        (x_fr w v0 5 5).bind fun t5 =>
        (x_ai w t5 v4).bind fun t6 =>
        (x_ai w t5 (v4 - (1 : Int32))).bind fun t7 =>
        (fM_isArrow w v0 t7 t6).bind fun t8 =>
        if t8 = (0 : Int32) then
          if (fM_has v2 t6) = (0 : Int32) then
            fM_isOpen_5 w n v0 v1 v2 (1 : Int32) (v4 + (1 : Int32))
          else
            fM_isOpen_5 w n v0 v1 v2 (0 : Int32) (v4 + (1 : Int32))
        else
          (x_ai w t5 (v4 + (1 : Int32))).bind fun t11 =>
          (fM_isArrow w v0 t11 t6).bind fun t12 =>
          if t12 = (0 : Int32) then
            if (fM_has v2 t6) = (0 : Int32) then
              fM_isOpen_5 w n v0 v1 v2 (1 : Int32) (v4 + (1 : Int32))
            else
              fM_isOpen_5 w n v0 v1 v2 (0 : Int32) (v4 + (1 : Int32))
          else
            if (fM_has v2 t6) = (0 : Int32) then
              (fM_after w v0 t6).bind fun t16 =>
              if (t16 &&& v2) = (0 : Int32) then
                fM_isOpen_5 w n v0 v1 v2 (0 : Int32) (v4 + (1 : Int32))
              else
                fM_isOpen_5 w n v0 v1 v2 (1 : Int32) (v4 + (1 : Int32))
            else
              fM_isOpen_5 w n v0 v1 v2 (1 : Int32) (v4 + (1 : Int32))
def fM_isOpen (w : x_W) (v0 : Nat) (v1 : Int32) (v2 : Int32) : Option Int32 :=
  fM_isOpen_5 w x_F v0 v1 v2 (1 : Int32) (1 : Int32)
set_option maxHeartbeats 4000000 in
set_option maxRecDepth 100000 in
theorem lM_isOpen_5 (d : Nat) (hd : 6 ≤ d) {K : Option Value → x_W → Prop} {r : Int32} {w : x_W} (hK : K (some (.int r)) w) : ∀ (n : Nat) (v0 : Nat) (v1 : Int32) (v2 : Int32) (v3 : Int32) (v4 : Int32), fM_isOpen_5 w n v0 v1 v2 v3 v4 = some r → x_G none yM_isOpen cM_isOpen 8 (some .boolean) (x_room d 0 0) (x_QM K 0 0) 5 [some (.ref v0), some (.int v1), some (.int v2), some (.int v3), some (.int v4), none, none, none] [] w 0 0 := by
  intro n
  induction n with
  | zero => intro v0 v1 v2 v3 v4 h; rw [fM_isOpen_5] at h; cases h
  | succ n ih =>
    intro v0 v1 v2 v3 v4 h
    rw [fM_isOpen_5] at h
    refine g_iload 7 dM_isOpen_5 rfl rfl ?_
    refine g_iconst 8 (1 : Int32) dM_isOpen_7 rfl (by decide) ?_
    refine g_iadd 9 dM_isOpen_8 rfl ?_
    refine g_iload_n 10 (i := 1) dM_isOpen_9 rfl rfl rfl ?_
    by_cases c1 : v1 ≤ (v4 + (1 : Int32))
    · rw [if_pos c1] at h
      refine g_icmp_ge_t 123 dM_isOpen_10 (by decide) c1 ?_
      refine g_iload_n 124 (i := 3) dM_isOpen_123 rfl rfl rfl ?_
      have c2 : v3 = 0 ∨ v3 = 1 := by
        by_cases c : v3 = 0 ∨ v3 = 1
        · exact c
        · rw [if_neg c] at h; cases h
      rw [if_pos c2] at h
      obtain rfl := Option.some.inj h
      exact g_zret rfl c2 dM_isOpen_124 hK
    · rw [if_neg c1] at h
      refine g_icmp_ge_f 13 123 dM_isOpen_10 (by decide) rfl c1 ?_
      refine g_iload_n 14 (i := 3) dM_isOpen_13 rfl rfl rfl ?_
      by_cases c3 : v3 = (0 : Int32)
      · rw [if_pos c3] at h
        refine g_if_eq_t 123 dM_isOpen_14 (by decide) c3 ?_
        refine g_iload_n 124 (i := 3) dM_isOpen_123 rfl rfl rfl ?_
        have c4 : v3 = 0 ∨ v3 = 1 := by
          by_cases c : v3 = 0 ∨ v3 = 1
          · exact c
          · rw [if_neg c] at h; cases h
        rw [if_pos c4] at h
        obtain rfl := Option.some.inj h
        exact g_zret rfl c4 dM_isOpen_124 hK
      · rw [if_neg c3] at h
        refine g_if_eq_f 17 123 dM_isOpen_14 (by decide) rfl c3 ?_
        refine g_aload_n 18 (i := 0) dM_isOpen_17 rfl rfl rfl ?_
        obtain ⟨t5, e5, h⟩ := x_bind h
        refine g_getfR 21 5 5 dM_isOpen_18 rfl x_in5 tw_3_0 rfl (by decide) e5 ?_
        refine g_iload 23 dM_isOpen_21 rfl rfl ?_
        obtain ⟨t6, e6, h⟩ := x_bind h
        refine g_iald 24 dM_isOpen_23 rfl e6 ?_
        refine g_istore 26 [some (.ref v0), some (.int v1), some (.int v2), some (.int v3), some (.int v4), some (.int t6), none, none] dM_isOpen_24 rfl rfl (by decide) ?_
        refine g_aload_n 27 (i := 0) dM_isOpen_26 rfl rfl rfl ?_
        refine g_aload_n 28 (i := 0) dM_isOpen_27 rfl rfl rfl ?_
        refine g_getfR 31 5 5 dM_isOpen_28 rfl x_in5 tw_3_0 rfl (by decide) e5 ?_
        refine g_iload 33 dM_isOpen_31 rfl rfl ?_
        refine g_iconst 34 (1 : Int32) dM_isOpen_33 rfl (by decide) ?_
        refine g_isub 35 dM_isOpen_34 rfl ?_
        obtain ⟨t7, e7, h⟩ := x_bind h
        refine g_iald 36 dM_isOpen_35 rfl e7 ?_
        refine g_iload 38 dM_isOpen_36 rfl rfl ?_
        obtain ⟨t8, e8, h⟩ := x_bind h
        refine g_cV 41 (some (.int t8)) w [.int t7, .int t6] [] dM_isOpen_38 rfl (fun _ hK2 => mM_isArrow (d - 1) (by omega) e8 hK2) (x_fr_ob e5) kM_70 (x_rm (Nat.le_trans (by decide) hd) (by decide)) ⟨Nat.zero_le _, Nat.zero_le _⟩ (Nat.le_of_ble_eq_true rfl) rfl ?_
        by_cases c9 : t8 = (0 : Int32)
        · rw [if_pos c9] at h
          refine g_if_eq_t 66 dM_isOpen_41 (by decide) c9 ?_
          refine g_iconst 67 (0 : Int32) dM_isOpen_66 rfl (by decide) ?_
          refine g_istore 69 [some (.ref v0), some (.int v1), some (.int v2), some (.int v3), some (.int v4), some (.int t6), some (.int (0 : Int32)), none] dM_isOpen_67 rfl rfl (by decide) ?_
          refine g_iload_n 70 (i := 2) dM_isOpen_69 rfl rfl rfl ?_
          refine g_iload 72 dM_isOpen_70 rfl rfl ?_
          refine g_cS 75 (some (.int (fM_has v2 t6))) w [.int v2, .int t6] [] dM_isOpen_72 rfl (fun _ hK2 => mM_has (d - 1) (by omega) rfl hK2) kM_62 (x_rm (Nat.le_trans (by decide) hd) (by decide)) ⟨Nat.zero_le _, Nat.zero_le _⟩ (Nat.le_of_ble_eq_true rfl) rfl ?_
          refine g_istore 77 [some (.ref v0), some (.int v1), some (.int v2), some (.int v3), some (.int v4), some (.int t6), some (.int (0 : Int32)), some (.int (fM_has v2 t6))] dM_isOpen_75 rfl rfl (by decide) ?_
          refine g_iload 79 dM_isOpen_77 rfl rfl ?_
          refine g_if_eq_t 106 dM_isOpen_79 (by decide) (by decide) ?_
          refine g_iload 108 dM_isOpen_106 rfl rfl ?_
          by_cases c10 : (fM_has v2 t6) = (0 : Int32)
          · rw [if_pos c10] at h
            refine g_if_ne_f 111 115 dM_isOpen_108 (by decide) rfl c10 ?_
            refine g_iconst 112 (1 : Int32) dM_isOpen_111 rfl (by decide) ?_
            refine g_goto 116 dM_isOpen_112 (by decide) ?_
            refine g_istore_n 117 (i := 3) [some (.ref v0), some (.int v1), some (.int v2), some (.int (1 : Int32)), some (.int v4), some (.int t6), some (.int (0 : Int32)), some (.int (fM_has v2 t6))] dM_isOpen_116 rfl rfl rfl (by decide) ?_
            refine g_iinc 120 [some (.ref v0), some (.int v1), some (.int v2), some (.int (1 : Int32)), some (.int (v4 + (1 : Int32))), some (.int t6), some (.int (0 : Int32)), some (.int (fM_has v2 t6))] dM_isOpen_117 rfl rfl (x_inc (1 : Int32) (by decide)) rfl (by decide) ?_
            refine g_goto 5 dM_isOpen_120 (by decide) ?_
            refine g_less [some (.ref v0), some (.int v1), some (.int v2), some (.int (1 : Int32)), some (.int (v4 + (1 : Int32))), none, none, none] ⟨rfl, rfl, rfl, rfl, rfl, trivial⟩ ?_
            exact ih _ _ _ _ _ h
          · rw [if_neg c10] at h
            refine g_if_ne_t 115 dM_isOpen_108 (by decide) c10 ?_
            refine g_iconst 116 (0 : Int32) dM_isOpen_115 rfl (by decide) ?_
            refine g_istore_n 117 (i := 3) [some (.ref v0), some (.int v1), some (.int v2), some (.int (0 : Int32)), some (.int v4), some (.int t6), some (.int (0 : Int32)), some (.int (fM_has v2 t6))] dM_isOpen_116 rfl rfl rfl (by decide) ?_
            refine g_iinc 120 [some (.ref v0), some (.int v1), some (.int v2), some (.int (0 : Int32)), some (.int (v4 + (1 : Int32))), some (.int t6), some (.int (0 : Int32)), some (.int (fM_has v2 t6))] dM_isOpen_117 rfl rfl (x_inc (1 : Int32) (by decide)) rfl (by decide) ?_
            refine g_goto 5 dM_isOpen_120 (by decide) ?_
            refine g_less [some (.ref v0), some (.int v1), some (.int v2), some (.int (0 : Int32)), some (.int (v4 + (1 : Int32))), none, none, none] ⟨rfl, rfl, rfl, rfl, rfl, trivial⟩ ?_
            exact ih _ _ _ _ _ h
        · rw [if_neg c9] at h
          refine g_if_eq_f 44 66 dM_isOpen_41 (by decide) rfl c9 ?_
          refine g_aload_n 45 (i := 0) dM_isOpen_44 rfl rfl rfl ?_
          refine g_aload_n 46 (i := 0) dM_isOpen_45 rfl rfl rfl ?_
          refine g_getfR 49 5 5 dM_isOpen_46 rfl x_in5 tw_3_0 rfl (by decide) e5 ?_
          refine g_iload 51 dM_isOpen_49 rfl rfl ?_
          refine g_iconst 52 (1 : Int32) dM_isOpen_51 rfl (by decide) ?_
          refine g_iadd 53 dM_isOpen_52 rfl ?_
          obtain ⟨t11, e11, h⟩ := x_bind h
          refine g_iald 54 dM_isOpen_53 rfl e11 ?_
          refine g_iload 56 dM_isOpen_54 rfl rfl ?_
          obtain ⟨t12, e12, h⟩ := x_bind h
          refine g_cV 59 (some (.int t12)) w [.int t11, .int t6] [] dM_isOpen_56 rfl (fun _ hK2 => mM_isArrow (d - 1) (by omega) e12 hK2) (x_fr_ob e5) kM_70 (x_rm (Nat.le_trans (by decide) hd) (by decide)) ⟨Nat.zero_le _, Nat.zero_le _⟩ (Nat.le_of_ble_eq_true rfl) rfl ?_
          by_cases c13 : t12 = (0 : Int32)
          · rw [if_pos c13] at h
            refine g_if_eq_t 66 dM_isOpen_59 (by decide) c13 ?_
            refine g_iconst 67 (0 : Int32) dM_isOpen_66 rfl (by decide) ?_
            refine g_istore 69 [some (.ref v0), some (.int v1), some (.int v2), some (.int v3), some (.int v4), some (.int t6), some (.int (0 : Int32)), none] dM_isOpen_67 rfl rfl (by decide) ?_
            refine g_iload_n 70 (i := 2) dM_isOpen_69 rfl rfl rfl ?_
            refine g_iload 72 dM_isOpen_70 rfl rfl ?_
            refine g_cS 75 (some (.int (fM_has v2 t6))) w [.int v2, .int t6] [] dM_isOpen_72 rfl (fun _ hK2 => mM_has (d - 1) (by omega) rfl hK2) kM_62 (x_rm (Nat.le_trans (by decide) hd) (by decide)) ⟨Nat.zero_le _, Nat.zero_le _⟩ (Nat.le_of_ble_eq_true rfl) rfl ?_
            refine g_istore 77 [some (.ref v0), some (.int v1), some (.int v2), some (.int v3), some (.int v4), some (.int t6), some (.int (0 : Int32)), some (.int (fM_has v2 t6))] dM_isOpen_75 rfl rfl (by decide) ?_
            refine g_iload 79 dM_isOpen_77 rfl rfl ?_
            refine g_if_eq_t 106 dM_isOpen_79 (by decide) (by decide) ?_
            refine g_iload 108 dM_isOpen_106 rfl rfl ?_
            by_cases c14 : (fM_has v2 t6) = (0 : Int32)
            · rw [if_pos c14] at h
              refine g_if_ne_f 111 115 dM_isOpen_108 (by decide) rfl c14 ?_
              refine g_iconst 112 (1 : Int32) dM_isOpen_111 rfl (by decide) ?_
              refine g_goto 116 dM_isOpen_112 (by decide) ?_
              refine g_istore_n 117 (i := 3) [some (.ref v0), some (.int v1), some (.int v2), some (.int (1 : Int32)), some (.int v4), some (.int t6), some (.int (0 : Int32)), some (.int (fM_has v2 t6))] dM_isOpen_116 rfl rfl rfl (by decide) ?_
              refine g_iinc 120 [some (.ref v0), some (.int v1), some (.int v2), some (.int (1 : Int32)), some (.int (v4 + (1 : Int32))), some (.int t6), some (.int (0 : Int32)), some (.int (fM_has v2 t6))] dM_isOpen_117 rfl rfl (x_inc (1 : Int32) (by decide)) rfl (by decide) ?_
              refine g_goto 5 dM_isOpen_120 (by decide) ?_
              refine g_less [some (.ref v0), some (.int v1), some (.int v2), some (.int (1 : Int32)), some (.int (v4 + (1 : Int32))), none, none, none] ⟨rfl, rfl, rfl, rfl, rfl, trivial⟩ ?_
              exact ih _ _ _ _ _ h
            · rw [if_neg c14] at h
              refine g_if_ne_t 115 dM_isOpen_108 (by decide) c14 ?_
              refine g_iconst 116 (0 : Int32) dM_isOpen_115 rfl (by decide) ?_
              refine g_istore_n 117 (i := 3) [some (.ref v0), some (.int v1), some (.int v2), some (.int (0 : Int32)), some (.int v4), some (.int t6), some (.int (0 : Int32)), some (.int (fM_has v2 t6))] dM_isOpen_116 rfl rfl rfl (by decide) ?_
              refine g_iinc 120 [some (.ref v0), some (.int v1), some (.int v2), some (.int (0 : Int32)), some (.int (v4 + (1 : Int32))), some (.int t6), some (.int (0 : Int32)), some (.int (fM_has v2 t6))] dM_isOpen_117 rfl rfl (x_inc (1 : Int32) (by decide)) rfl (by decide) ?_
              refine g_goto 5 dM_isOpen_120 (by decide) ?_
              refine g_less [some (.ref v0), some (.int v1), some (.int v2), some (.int (0 : Int32)), some (.int (v4 + (1 : Int32))), none, none, none] ⟨rfl, rfl, rfl, rfl, rfl, trivial⟩ ?_
              exact ih _ _ _ _ _ h
          · rw [if_neg c13] at h
            refine g_if_eq_f 62 66 dM_isOpen_59 (by decide) rfl c13 ?_
            refine g_iconst 63 (1 : Int32) dM_isOpen_62 rfl (by decide) ?_
            refine g_goto 67 dM_isOpen_63 (by decide) ?_
            refine g_istore 69 [some (.ref v0), some (.int v1), some (.int v2), some (.int v3), some (.int v4), some (.int t6), some (.int (1 : Int32)), none] dM_isOpen_67 rfl rfl (by decide) ?_
            refine g_iload_n 70 (i := 2) dM_isOpen_69 rfl rfl rfl ?_
            refine g_iload 72 dM_isOpen_70 rfl rfl ?_
            refine g_cS 75 (some (.int (fM_has v2 t6))) w [.int v2, .int t6] [] dM_isOpen_72 rfl (fun _ hK2 => mM_has (d - 1) (by omega) rfl hK2) kM_62 (x_rm (Nat.le_trans (by decide) hd) (by decide)) ⟨Nat.zero_le _, Nat.zero_le _⟩ (Nat.le_of_ble_eq_true rfl) rfl ?_
            refine g_istore 77 [some (.ref v0), some (.int v1), some (.int v2), some (.int v3), some (.int v4), some (.int t6), some (.int (1 : Int32)), some (.int (fM_has v2 t6))] dM_isOpen_75 rfl rfl (by decide) ?_
            refine g_iload 79 dM_isOpen_77 rfl rfl ?_
            refine g_if_eq_f 82 106 dM_isOpen_79 (by decide) rfl (by decide) ?_
            refine g_iload 84 dM_isOpen_82 rfl rfl ?_
            by_cases c15 : (fM_has v2 t6) = (0 : Int32)
            · rw [if_pos c15] at h
              refine g_if_ne_f 87 98 dM_isOpen_84 (by decide) rfl c15 ?_
              refine g_aload_n 88 (i := 0) dM_isOpen_87 rfl rfl rfl ?_
              refine g_iload 90 dM_isOpen_88 rfl rfl ?_
              obtain ⟨t16, e16, h⟩ := x_bind h
              refine g_cV 93 (some (.int t16)) w [.int t6] [] dM_isOpen_90 rfl (fun _ hK2 => mM_after (d - 1) (by omega) e16 hK2) (x_fr_ob e5) kM_81 (x_rm (Nat.le_trans (by decide) hd) (by decide)) ⟨Nat.zero_le _, Nat.zero_le _⟩ (Nat.le_of_ble_eq_true rfl) rfl ?_
              refine g_iload_n 94 (i := 2) dM_isOpen_93 rfl rfl rfl ?_
              refine g_iand 95 dM_isOpen_94 rfl ?_
              by_cases c17 : (t16 &&& v2) = (0 : Int32)
              · rw [if_pos c17] at h
                refine g_if_eq_t 102 dM_isOpen_95 (by decide) c17 ?_
                refine g_iconst 103 (0 : Int32) dM_isOpen_102 rfl (by decide) ?_
                refine g_goto 116 dM_isOpen_103 (by decide) ?_
                refine g_istore_n 117 (i := 3) [some (.ref v0), some (.int v1), some (.int v2), some (.int (0 : Int32)), some (.int v4), some (.int t6), some (.int (1 : Int32)), some (.int (fM_has v2 t6))] dM_isOpen_116 rfl rfl rfl (by decide) ?_
                refine g_iinc 120 [some (.ref v0), some (.int v1), some (.int v2), some (.int (0 : Int32)), some (.int (v4 + (1 : Int32))), some (.int t6), some (.int (1 : Int32)), some (.int (fM_has v2 t6))] dM_isOpen_117 rfl rfl (x_inc (1 : Int32) (by decide)) rfl (by decide) ?_
                refine g_goto 5 dM_isOpen_120 (by decide) ?_
                refine g_less [some (.ref v0), some (.int v1), some (.int v2), some (.int (0 : Int32)), some (.int (v4 + (1 : Int32))), none, none, none] ⟨rfl, rfl, rfl, rfl, rfl, trivial⟩ ?_
                exact ih _ _ _ _ _ h
              · rw [if_neg c17] at h
                refine g_if_eq_f 98 102 dM_isOpen_95 (by decide) rfl c17 ?_
                refine g_iconst 99 (1 : Int32) dM_isOpen_98 rfl (by decide) ?_
                refine g_goto 116 dM_isOpen_99 (by decide) ?_
                refine g_istore_n 117 (i := 3) [some (.ref v0), some (.int v1), some (.int v2), some (.int (1 : Int32)), some (.int v4), some (.int t6), some (.int (1 : Int32)), some (.int (fM_has v2 t6))] dM_isOpen_116 rfl rfl rfl (by decide) ?_
                refine g_iinc 120 [some (.ref v0), some (.int v1), some (.int v2), some (.int (1 : Int32)), some (.int (v4 + (1 : Int32))), some (.int t6), some (.int (1 : Int32)), some (.int (fM_has v2 t6))] dM_isOpen_117 rfl rfl (x_inc (1 : Int32) (by decide)) rfl (by decide) ?_
                refine g_goto 5 dM_isOpen_120 (by decide) ?_
                refine g_less [some (.ref v0), some (.int v1), some (.int v2), some (.int (1 : Int32)), some (.int (v4 + (1 : Int32))), none, none, none] ⟨rfl, rfl, rfl, rfl, rfl, trivial⟩ ?_
                exact ih _ _ _ _ _ h
            · rw [if_neg c15] at h
              refine g_if_ne_t 98 dM_isOpen_84 (by decide) c15 ?_
              refine g_iconst 99 (1 : Int32) dM_isOpen_98 rfl (by decide) ?_
              refine g_goto 116 dM_isOpen_99 (by decide) ?_
              refine g_istore_n 117 (i := 3) [some (.ref v0), some (.int v1), some (.int v2), some (.int (1 : Int32)), some (.int v4), some (.int t6), some (.int (1 : Int32)), some (.int (fM_has v2 t6))] dM_isOpen_116 rfl rfl rfl (by decide) ?_
              refine g_iinc 120 [some (.ref v0), some (.int v1), some (.int v2), some (.int (1 : Int32)), some (.int (v4 + (1 : Int32))), some (.int t6), some (.int (1 : Int32)), some (.int (fM_has v2 t6))] dM_isOpen_117 rfl rfl (x_inc (1 : Int32) (by decide)) rfl (by decide) ?_
              refine g_goto 5 dM_isOpen_120 (by decide) ?_
              refine g_less [some (.ref v0), some (.int v1), some (.int v2), some (.int (1 : Int32)), some (.int (v4 + (1 : Int32))), none, none, none] ⟨rfl, rfl, rfl, rfl, rfl, trivial⟩ ?_
              exact ih _ _ _ _ _ h
set_option maxHeartbeats 4000000 in
set_option maxRecDepth 100000 in
theorem mM_isOpen (d : Nat) (hd : 6 ≤ d) {K : Option Value → x_W → Prop} {w : x_W} {v0 : Nat} {v1 : Int32} {v2 : Int32} {r : Int32} (h : fM_isOpen w v0 v1 v2 = some r) (hK : K (some (.int r)) w) : x_M yM_isOpen cM_isOpen 8 (some .boolean) d 0 0 [.ref v0, .int v1, .int v2] w K := by
  refine x_M.of [some (.ref v0), some (.int v1), some (.int v2), none, none, none, none, none] (by decide) rfl (Nat.le_of_ble_eq_true rfl) ?_
  unfold fM_isOpen at h
  refine g_iconst 1 (1 : Int32) dM_isOpen_0 rfl (by decide) ?_
  refine g_istore_n 2 (i := 3) [some (.ref v0), some (.int v1), some (.int v2), some (.int (1 : Int32)), none, none, none, none] dM_isOpen_1 rfl rfl rfl (by decide) ?_
  refine g_iconst 3 (1 : Int32) dM_isOpen_2 rfl (by decide) ?_
  refine g_istore 5 [some (.ref v0), some (.int v1), some (.int v2), some (.int (1 : Int32)), some (.int (1 : Int32)), none, none, none] dM_isOpen_3 rfl rfl (by decide) ?_
  exact lM_isOpen_5 d hd hK x_F _ _ _ _ _ h
/-! ActSurgeryModel.waysOf(III)I: level X -/
theorem dM_waysOf_0 : decode cM_waysOf 0 = .ok (.iconst 0, 1) := by decide +kernel
theorem dM_waysOf_1 : decode cM_waysOf 1 = .ok (.istore 4, 2) := by decide +kernel
theorem dM_waysOf_3 : decode cM_waysOf 3 = .ok (.iconst 1, 1) := by decide +kernel
theorem dM_waysOf_4 : decode cM_waysOf 4 = .ok (.istore 5, 2) := by decide +kernel
theorem dM_waysOf_6 : decode cM_waysOf 6 = .ok (.aload_n 0, 1) := by decide +kernel
theorem dM_waysOf_7 : decode cM_waysOf 7 = .ok (.getfield 22, 3) := by decide +kernel
theorem dM_waysOf_10 : decode cM_waysOf 10 = .ok (.iconst 0, 1) := by decide +kernel
theorem dM_waysOf_11 : decode cM_waysOf 11 = .ok (.iload_n 1, 1) := by decide +kernel
theorem dM_waysOf_12 : decode cM_waysOf 12 = .ok (.iastore, 1) := by decide +kernel
theorem dM_waysOf_13 : decode cM_waysOf 13 = .ok (.iconst 1, 1) := by decide +kernel
theorem dM_waysOf_14 : decode cM_waysOf 14 = .ok (.iload_n 1, 1) := by decide +kernel
theorem dM_waysOf_15 : decode cM_waysOf 15 = .ok (.ishl, 1) := by decide +kernel
theorem dM_waysOf_16 : decode cM_waysOf 16 = .ok (.istore 6, 2) := by decide +kernel
theorem dM_waysOf_18 : decode cM_waysOf 18 = .ok (.iconst 0, 1) := by decide +kernel
theorem dM_waysOf_19 : decode cM_waysOf 19 = .ok (.istore 7, 2) := by decide +kernel
theorem dM_waysOf_21 : decode cM_waysOf 21 = .ok (.iload 5, 2) := by decide +kernel
theorem dM_waysOf_23 : decode cM_waysOf 23 = .ok (.ifCond .le 158, 3) := by decide +kernel
theorem dM_waysOf_26 : decode cM_waysOf 26 = .ok (.iload 7, 2) := by decide +kernel
theorem dM_waysOf_28 : decode cM_waysOf 28 = .ok (.aload_n 0, 1) := by decide +kernel
theorem dM_waysOf_29 : decode cM_waysOf 29 = .ok (.invokevirtual 44, 3) := by decide +kernel
theorem dM_waysOf_32 : decode cM_waysOf 32 = .ok (.if_icmp .ge 37, 3) := by decide +kernel
theorem dM_waysOf_35 : decode cM_waysOf 35 = .ok (.iload 6, 2) := by decide +kernel
theorem dM_waysOf_37 : decode cM_waysOf 37 = .ok (.iload 7, 2) := by decide +kernel
theorem dM_waysOf_39 : decode cM_waysOf 39 = .ok (.invokestatic 62, 3) := by decide +kernel
theorem dM_waysOf_42 : decode cM_waysOf 42 = .ok (.ifCond .ne 21, 3) := by decide +kernel
theorem dM_waysOf_45 : decode cM_waysOf 45 = .ok (.aload_n 0, 1) := by decide +kernel
theorem dM_waysOf_46 : decode cM_waysOf 46 = .ok (.aload_n 0, 1) := by decide +kernel
theorem dM_waysOf_47 : decode cM_waysOf 47 = .ok (.getfield 22, 3) := by decide +kernel
theorem dM_waysOf_50 : decode cM_waysOf 50 = .ok (.iload 5, 2) := by decide +kernel
theorem dM_waysOf_52 : decode cM_waysOf 52 = .ok (.iconst 1, 1) := by decide +kernel
theorem dM_waysOf_53 : decode cM_waysOf 53 = .ok (.isub, 1) := by decide +kernel
theorem dM_waysOf_54 : decode cM_waysOf 54 = .ok (.iaload, 1) := by decide +kernel
theorem dM_waysOf_55 : decode cM_waysOf 55 = .ok (.iload 7, 2) := by decide +kernel
theorem dM_waysOf_57 : decode cM_waysOf 57 = .ok (.invokevirtual 84, 3) := by decide +kernel
theorem dM_waysOf_60 : decode cM_waysOf 60 = .ok (.ifCond .ne 9, 3) := by decide +kernel
theorem dM_waysOf_63 : decode cM_waysOf 63 = .ok (.iinc 7 1, 3) := by decide +kernel
theorem dM_waysOf_66 : decode cM_waysOf 66 = .ok (.goto (-40), 3) := by decide +kernel
theorem dM_waysOf_69 : decode cM_waysOf 69 = .ok (.iload 7, 2) := by decide +kernel
theorem dM_waysOf_71 : decode cM_waysOf 71 = .ok (.aload_n 0, 1) := by decide +kernel
theorem dM_waysOf_72 : decode cM_waysOf 72 = .ok (.invokevirtual 44, 3) := by decide +kernel
theorem dM_waysOf_75 : decode cM_waysOf 75 = .ok (.if_icmp .ne 36, 3) := by decide +kernel
theorem dM_waysOf_78 : decode cM_waysOf 78 = .ok (.iinc 5 (-1), 3) := by decide +kernel
theorem dM_waysOf_81 : decode cM_waysOf 81 = .ok (.iload 6, 2) := by decide +kernel
theorem dM_waysOf_83 : decode cM_waysOf 83 = .ok (.iconst 1, 1) := by decide +kernel
theorem dM_waysOf_84 : decode cM_waysOf 84 = .ok (.aload_n 0, 1) := by decide +kernel
theorem dM_waysOf_85 : decode cM_waysOf 85 = .ok (.getfield 22, 3) := by decide +kernel
theorem dM_waysOf_88 : decode cM_waysOf 88 = .ok (.iload 5, 2) := by decide +kernel
theorem dM_waysOf_90 : decode cM_waysOf 90 = .ok (.iaload, 1) := by decide +kernel
theorem dM_waysOf_91 : decode cM_waysOf 91 = .ok (.ishl, 1) := by decide +kernel
theorem dM_waysOf_92 : decode cM_waysOf 92 = .ok (.iconst (-1), 1) := by decide +kernel
theorem dM_waysOf_93 : decode cM_waysOf 93 = .ok (.ixor, 1) := by decide +kernel
theorem dM_waysOf_94 : decode cM_waysOf 94 = .ok (.iand, 1) := by decide +kernel
theorem dM_waysOf_95 : decode cM_waysOf 95 = .ok (.istore 6, 2) := by decide +kernel
theorem dM_waysOf_97 : decode cM_waysOf 97 = .ok (.aload_n 0, 1) := by decide +kernel
theorem dM_waysOf_98 : decode cM_waysOf 98 = .ok (.getfield 22, 3) := by decide +kernel
theorem dM_waysOf_101 : decode cM_waysOf 101 = .ok (.iload 5, 2) := by decide +kernel
theorem dM_waysOf_103 : decode cM_waysOf 103 = .ok (.iaload, 1) := by decide +kernel
theorem dM_waysOf_104 : decode cM_waysOf 104 = .ok (.iconst 1, 1) := by decide +kernel
theorem dM_waysOf_105 : decode cM_waysOf 105 = .ok (.iadd, 1) := by decide +kernel
theorem dM_waysOf_106 : decode cM_waysOf 106 = .ok (.istore 7, 2) := by decide +kernel
theorem dM_waysOf_108 : decode cM_waysOf 108 = .ok (.goto (-87), 3) := by decide +kernel
theorem dM_waysOf_111 : decode cM_waysOf 111 = .ok (.iload 7, 2) := by decide +kernel
theorem dM_waysOf_113 : decode cM_waysOf 113 = .ok (.iload_n 2, 1) := by decide +kernel
theorem dM_waysOf_114 : decode cM_waysOf 114 = .ok (.if_icmp .ne 40, 3) := by decide +kernel
theorem dM_waysOf_117 : decode cM_waysOf 117 = .ok (.aload_n 0, 1) := by decide +kernel
theorem dM_waysOf_118 : decode cM_waysOf 118 = .ok (.getfield 22, 3) := by decide +kernel
theorem dM_waysOf_121 : decode cM_waysOf 121 = .ok (.iload 5, 2) := by decide +kernel
theorem dM_waysOf_123 : decode cM_waysOf 123 = .ok (.iload_n 2, 1) := by decide +kernel
theorem dM_waysOf_124 : decode cM_waysOf 124 = .ok (.iastore, 1) := by decide +kernel
theorem dM_waysOf_125 : decode cM_waysOf 125 = .ok (.aload_n 0, 1) := by decide +kernel
theorem dM_waysOf_126 : decode cM_waysOf 126 = .ok (.iload 5, 2) := by decide +kernel
theorem dM_waysOf_128 : decode cM_waysOf 128 = .ok (.iconst 1, 1) := by decide +kernel
theorem dM_waysOf_129 : decode cM_waysOf 129 = .ok (.iadd, 1) := by decide +kernel
theorem dM_waysOf_130 : decode cM_waysOf 130 = .ok (.iload_n 3, 1) := by decide +kernel
theorem dM_waysOf_131 : decode cM_waysOf 131 = .ok (.invokevirtual 87, 3) := by decide +kernel
theorem dM_waysOf_134 : decode cM_waysOf 134 = .ok (.ifCond .eq 10, 3) := by decide +kernel
theorem dM_waysOf_137 : decode cM_waysOf 137 = .ok (.iload 4, 2) := by decide +kernel
theorem dM_waysOf_139 : decode cM_waysOf 139 = .ok (.iconst 1, 1) := by decide +kernel
theorem dM_waysOf_140 : decode cM_waysOf 140 = .ok (.iadd, 1) := by decide +kernel
theorem dM_waysOf_141 : decode cM_waysOf 141 = .ok (.goto 5, 3) := by decide +kernel
theorem dM_waysOf_144 : decode cM_waysOf 144 = .ok (.iload 4, 2) := by decide +kernel
theorem dM_waysOf_146 : decode cM_waysOf 146 = .ok (.istore 4, 2) := by decide +kernel
theorem dM_waysOf_148 : decode cM_waysOf 148 = .ok (.iinc 7 1, 3) := by decide +kernel
theorem dM_waysOf_151 : decode cM_waysOf 151 = .ok (.goto (-130), 3) := by decide +kernel
theorem dM_waysOf_154 : decode cM_waysOf 154 = .ok (.aload_n 0, 1) := by decide +kernel
theorem dM_waysOf_155 : decode cM_waysOf 155 = .ok (.getfield 22, 3) := by decide +kernel
theorem dM_waysOf_158 : decode cM_waysOf 158 = .ok (.iload 5, 2) := by decide +kernel
theorem dM_waysOf_160 : decode cM_waysOf 160 = .ok (.iload 7, 2) := by decide +kernel
theorem dM_waysOf_162 : decode cM_waysOf 162 = .ok (.iastore, 1) := by decide +kernel
theorem dM_waysOf_163 : decode cM_waysOf 163 = .ok (.iload 6, 2) := by decide +kernel
theorem dM_waysOf_165 : decode cM_waysOf 165 = .ok (.iconst 1, 1) := by decide +kernel
theorem dM_waysOf_166 : decode cM_waysOf 166 = .ok (.iload 7, 2) := by decide +kernel
theorem dM_waysOf_168 : decode cM_waysOf 168 = .ok (.ishl, 1) := by decide +kernel
theorem dM_waysOf_169 : decode cM_waysOf 169 = .ok (.ior, 1) := by decide +kernel
theorem dM_waysOf_170 : decode cM_waysOf 170 = .ok (.istore 6, 2) := by decide +kernel
theorem dM_waysOf_172 : decode cM_waysOf 172 = .ok (.iinc 5 1, 3) := by decide +kernel
theorem dM_waysOf_175 : decode cM_waysOf 175 = .ok (.iconst 0, 1) := by decide +kernel
theorem dM_waysOf_176 : decode cM_waysOf 176 = .ok (.istore 7, 2) := by decide +kernel
theorem dM_waysOf_178 : decode cM_waysOf 178 = .ok (.goto (-157), 3) := by decide +kernel
theorem dM_waysOf_181 : decode cM_waysOf 181 = .ok (.iload 4, 2) := by decide +kernel
theorem dM_waysOf_183 : decode cM_waysOf 183 = .ok (.ireturn, 1) := by decide +kernel
theorem tw_3_92 : (Jvm.Cond.instanceMethod ({ cls := "ActSurgeryModel", name := "isOpen", desc := "(II)Z" } : Jvm.MethodName)) ∈ x_GT := x_t3 92 rfl rfl
theorem tws_37 : (Jvm.Cond.selects "ActSurgeryModel" ({ cls := "ActSurgeryModel", name := "isOpen", desc := "(II)Z" } : Jvm.MethodName) ({ cls := "ActSurgeryModel", name := "isOpen", desc := "(II)Z" } : Jvm.MethodName)) ∈ x_GT := x_ts 37 rfl rfl
theorem tw_3_93 : (Jvm.Cond.code ({ cls := "ActSurgeryModel", name := "isOpen", desc := "(II)Z" } : Jvm.MethodName) prog_7_method_20_code (8 : Nat) (Option.some Jvm.ClassFile.FieldType.boolean)) ∈ x_GT := x_t3 93 rfl rfl
theorem tw_3_90 : (Jvm.Cond.methodLink "ActSurgeryModel" (87 : Nat) ({ cls := "ActSurgeryModel", name := "isOpen", desc := "(II)Z" } : Jvm.MethodName)) ∈ x_GT := x_t3 90 rfl rfl
theorem kM_87 : x_kV "ActSurgeryModel" 87 yM_isOpen cM_isOpen 8 (some .boolean) 2 5 := ⟨tw_3_92, tws_37, tw_3_93, tw_1_6, tw_3_90, (by decide +kernel), rfl⟩
theorem tw_3_84 : (Jvm.Cond.instanceMethod ({ cls := "ActSurgeryModel", name := "isJoined", desc := "(II)Z" } : Jvm.MethodName)) ∈ x_GT := x_t3 84 rfl rfl
theorem tws_35 : (Jvm.Cond.selects "ActSurgeryModel" ({ cls := "ActSurgeryModel", name := "isJoined", desc := "(II)Z" } : Jvm.MethodName) ({ cls := "ActSurgeryModel", name := "isJoined", desc := "(II)Z" } : Jvm.MethodName)) ∈ x_GT := x_ts 35 rfl rfl
theorem tw_3_85 : (Jvm.Cond.code ({ cls := "ActSurgeryModel", name := "isJoined", desc := "(II)Z" } : Jvm.MethodName) prog_7_method_16_code (3 : Nat) (Option.some Jvm.ClassFile.FieldType.boolean)) ∈ x_GT := x_t3 85 rfl rfl
theorem tw_3_82 : (Jvm.Cond.methodLink "ActSurgeryModel" (84 : Nat) ({ cls := "ActSurgeryModel", name := "isJoined", desc := "(II)Z" } : Jvm.MethodName)) ∈ x_GT := x_t3 82 rfl rfl
theorem kM_84 : x_kV "ActSurgeryModel" 84 yM_isJoined cM_isJoined 3 (some .boolean) 2 5 := ⟨tw_3_84, tws_35, tw_3_85, tw_1_6, tw_3_82, (by decide +kernel), rfl⟩
def fM_waysOf_26 (k21 : x_W → Nat → Int32 → Int32 → Int32 → Int32 → Int32 → Int32 → Option (Int32 × x_W)) : Nat → x_W → Nat → Int32 → Int32 → Int32 → Int32 → Int32 → Int32 → Option (Int32 × x_W)
  | 0, _, _, _, _, _, _, _, _ => none
  | n + 1, w, v0, v2, v3, v4, v5, v6, v7 =>
    (x_ob w v0 5).bind fun _ =>
    (fM_n w v0).bind fun t2 =>
    if t2 ≤ v7 then
      (fM_n w v0).bind fun t4 =>
      if v7 = t4 then
        (x_fr w v0 5 5).bind fun t6 =>
        (x_ai w t6 (v5 + (-1 : Int32))).bind fun t7 =>
        k21 w v0 v2 v3 v4 (v5 + (-1 : Int32)) (v6 &&& (((1 : Int32) <<< (t7 &&& 31)) ^^^ (-1 : Int32))) (t7 + (1 : Int32))
      else
        if v7 = v2 then
          (x_fr w v0 5 5).bind fun t9 =>
          (x_pa w t9 v5 v2).bind fun w10 =>
          (x_ob w10 v0 5).bind fun _ =>
          (fM_isOpen w10 v0 (v5 + (1 : Int32)) v3).bind fun t12 =>
          if t12 = (0 : Int32) then
            k21 w10 v0 v2 v3 v4 v5 v6 (v7 + (1 : Int32))
          else
            k21 w10 v0 v2 v3 (v4 + (1 : Int32)) v5 v6 (v7 + (1 : Int32))
        else
          (x_fr w v0 5 5).bind fun t14 =>
          (x_pa w t14 v5 v7).bind fun w15 =>
          k21 w15 v0 v2 v3 v4 (v5 + (1 : Int32)) (v6 ||| ((1 : Int32) <<< (v7 &&& 31))) (0 : Int32)
    else
      if (fM_has v6 v7) = (0 : Int32) then
        (x_fr w v0 5 5).bind fun t17 =>
        (x_ai w t17 (v5 - (1 : Int32))).bind fun t18 =>
        (fM_isJoined w v0 t18 v7).bind fun t19 =>
        if t19 = (0 : Int32) then
          fM_waysOf_26 k21 n w v0 v2 v3 v4 v5 v6 (v7 + (1 : Int32))
        else
          (fM_n w v0).bind fun t21 =>
          if v7 = t21 then
            (x_ai w t17 (v5 + (-1 : Int32))).bind fun t23 =>
            k21 w v0 v2 v3 v4 (v5 + (-1 : Int32)) (v6 &&& (((1 : Int32) <<< (t23 &&& 31)) ^^^ (-1 : Int32))) (t23 + (1 : Int32))
          else
            if v7 = v2 then
              (x_pa w t17 v5 v2).bind fun w25 =>
              (x_ob w25 v0 5).bind fun _ =>
              (fM_isOpen w25 v0 (v5 + (1 : Int32)) v3).bind fun t27 =>
              if t27 = (0 : Int32) then
                k21 w25 v0 v2 v3 v4 v5 v6 (v7 + (1 : Int32))
              else
                k21 w25 v0 v2 v3 (v4 + (1 : Int32)) v5 v6 (v7 + (1 : Int32))
            else
              (x_pa w t17 v5 v7).bind fun w29 =>
              k21 w29 v0 v2 v3 v4 (v5 + (1 : Int32)) (v6 ||| ((1 : Int32) <<< (v7 &&& 31))) (0 : Int32)
      else
        fM_waysOf_26 k21 n w v0 v2 v3 v4 v5 v6 (v7 + (1 : Int32))
def fM_waysOf_21  : Nat → x_W → Nat → Int32 → Int32 → Int32 → Int32 → Int32 → Int32 → Option (Int32 × x_W)
  | 0, _, _, _, _, _, _, _, _ => none
  | n + 1, w, v0, v2, v3, v4, v5, v6, v7 =>
    if v5 ≤ (0 : Int32) then
      some (v4, w)
    else
      fM_waysOf_26 (fM_waysOf_21 n) x_F w v0 v2 v3 v4 v5 v6 v7
def fM_waysOf  (w : x_W) (v0 : Nat) (v1 : Int32) (v2 : Int32) (v3 : Int32) : Option (Int32 × x_W) :=
  (x_fr w v0 5 5).bind fun t1 =>
  (x_pa w t1 (0 : Int32) v1).bind fun w2 =>
  fM_waysOf_21 x_F w2 v0 v2 v3 (0 : Int32) (1 : Int32) ((1 : Int32) <<< (v1 &&& 31)) (0 : Int32)
set_option maxHeartbeats 4000000 in
set_option maxRecDepth 100000 in
theorem lM_waysOf_26 (d : Nat) (hd : 7 ≤ d) {K : Option Value → x_W → Prop} {r : (Int32 × x_W)} (hK : K (some (.int r.1)) r.2) {k21 : x_W → Nat → Int32 → Int32 → Int32 → Int32 → Int32 → Int32 → Option (Int32 × x_W)} (hk21 : ∀ (w : x_W) (v0 : Nat) (v2 : Int32) (v3 : Int32) (v4 : Int32) (v5 : Int32) (v6 : Int32) (v7 : Int32), k21 w v0 v2 v3 v4 v5 v6 v7 = some r → x_G none yM_waysOf cM_waysOf 8 (some .int) (x_room d 0 0) (x_QM K 0 0) 21 [some (.ref v0), none, some (.int v2), some (.int v3), some (.int v4), some (.int v5), some (.int v6), some (.int v7)] [] w 0 0) : ∀ (n : Nat) (w : x_W) (v0 : Nat) (v2 : Int32) (v3 : Int32) (v4 : Int32) (v5 : Int32) (v6 : Int32) (v7 : Int32), fM_waysOf_26 k21 n w v0 v2 v3 v4 v5 v6 v7 = some r → x_G none yM_waysOf cM_waysOf 8 (some .int) (x_room d 0 0) (x_QM K 0 0) 26 [some (.ref v0), none, some (.int v2), some (.int v3), some (.int v4), some (.int v5), some (.int v6), some (.int v7)] [] w 0 0 := by
  intro n
  induction n with
  | zero => intro w v0 v2 v3 v4 v5 v6 v7 h; rw [fM_waysOf_26] at h; cases h
  | succ n ih =>
    intro w v0 v2 v3 v4 v5 v6 v7 h
    rw [fM_waysOf_26] at h
    refine g_iload 28 dM_waysOf_26 rfl rfl ?_
    refine g_aload_n 29 (i := 0) dM_waysOf_28 rfl rfl rfl ?_
    obtain ⟨_, e1, h⟩ := x_bind h
    obtain ⟨t2, e2, h⟩ := x_bind h
    refine g_cV 32 (some (.int t2)) w [] [.int v7] dM_waysOf_29 rfl (fun _ hK2 => mM_n (d - 1) (by omega) e2 hK2) (x_ob_some e1) kM_44 (x_rm (Nat.le_trans (by decide) hd) (by decide)) ⟨Nat.zero_le _, Nat.zero_le _⟩ (Nat.le_of_ble_eq_true rfl) rfl ?_
    by_cases c3 : t2 ≤ v7
    · rw [if_pos c3] at h
      refine g_icmp_ge_t 69 dM_waysOf_32 (by decide) c3 ?_
      refine g_iload 71 dM_waysOf_69 rfl rfl ?_
      refine g_aload_n 72 (i := 0) dM_waysOf_71 rfl rfl rfl ?_
      obtain ⟨t4, e4, h⟩ := x_bind h
      refine g_cV 75 (some (.int t4)) w [] [.int v7] dM_waysOf_72 rfl (fun _ hK2 => mM_n (d - 1) (by omega) e4 hK2) (x_ob_some e1) kM_44 (x_rm (Nat.le_trans (by decide) hd) (by decide)) ⟨Nat.zero_le _, Nat.zero_le _⟩ (Nat.le_of_ble_eq_true rfl) rfl ?_
      by_cases c5 : v7 = t4
      · rw [if_pos c5] at h
        refine g_icmp_ne_f 78 111 dM_waysOf_75 (by decide) rfl c5 ?_
        refine g_iinc 81 [some (.ref v0), none, some (.int v2), some (.int v3), some (.int v4), some (.int (v5 + (-1 : Int32))), some (.int v6), some (.int v7)] dM_waysOf_78 rfl rfl (x_inc (-1 : Int32) (by decide)) rfl (by decide) ?_
        refine g_iload 83 dM_waysOf_81 rfl rfl ?_
        refine g_iconst 84 (1 : Int32) dM_waysOf_83 rfl (by decide) ?_
        refine g_aload_n 85 (i := 0) dM_waysOf_84 rfl rfl rfl ?_
        obtain ⟨t6, e6, h⟩ := x_bind h
        refine g_getfR 88 5 5 dM_waysOf_85 rfl x_in5 tw_3_0 rfl (by decide) e6 ?_
        refine g_iload 90 dM_waysOf_88 rfl rfl ?_
        obtain ⟨t7, e7, h⟩ := x_bind h
        refine g_iald 91 dM_waysOf_90 rfl e7 ?_
        refine g_ishl 92 dM_waysOf_91 rfl ?_
        refine g_iconst 93 (-1 : Int32) dM_waysOf_92 rfl (by decide) ?_
        refine g_ixor 94 dM_waysOf_93 rfl ?_
        refine g_iand 95 dM_waysOf_94 rfl ?_
        refine g_istore 97 [some (.ref v0), none, some (.int v2), some (.int v3), some (.int v4), some (.int (v5 + (-1 : Int32))), some (.int (v6 &&& (((1 : Int32) <<< (t7 &&& 31)) ^^^ (-1 : Int32)))), some (.int v7)] dM_waysOf_95 rfl rfl (by decide) ?_
        refine g_aload_n 98 (i := 0) dM_waysOf_97 rfl rfl rfl ?_
        refine g_getfR 101 5 5 dM_waysOf_98 rfl x_in5 tw_3_0 rfl (by decide) e6 ?_
        refine g_iload 103 dM_waysOf_101 rfl rfl ?_
        refine g_iald 104 dM_waysOf_103 rfl e7 ?_
        refine g_iconst 105 (1 : Int32) dM_waysOf_104 rfl (by decide) ?_
        refine g_iadd 106 dM_waysOf_105 rfl ?_
        refine g_istore 108 [some (.ref v0), none, some (.int v2), some (.int v3), some (.int v4), some (.int (v5 + (-1 : Int32))), some (.int (v6 &&& (((1 : Int32) <<< (t7 &&& 31)) ^^^ (-1 : Int32)))), some (.int (t7 + (1 : Int32)))] dM_waysOf_106 rfl rfl (by decide) ?_
        refine g_goto 21 dM_waysOf_108 (by decide) ?_
        exact hk21 _ _ _ _ _ _ _ _ h
      · rw [if_neg c5] at h
        refine g_icmp_ne_t 111 dM_waysOf_75 (by decide) c5 ?_
        refine g_iload 113 dM_waysOf_111 rfl rfl ?_
        refine g_iload_n 114 (i := 2) dM_waysOf_113 rfl rfl rfl ?_
        by_cases c8 : v7 = v2
        · rw [if_pos c8] at h
          refine g_icmp_ne_f 117 154 dM_waysOf_114 (by decide) rfl c8 ?_
          refine g_aload_n 118 (i := 0) dM_waysOf_117 rfl rfl rfl ?_
          obtain ⟨t9, e9, h⟩ := x_bind h
          refine g_getfR 121 5 5 dM_waysOf_118 rfl x_in5 tw_3_0 rfl (by decide) e9 ?_
          refine g_iload 123 dM_waysOf_121 rfl rfl ?_
          refine g_iload_n 124 (i := 2) dM_waysOf_123 rfl rfl rfl ?_
          obtain ⟨w10, e10, h⟩ := x_bind h
          refine g_iast 125 dM_waysOf_124 rfl e10 ?_
          refine g_aload_n 126 (i := 0) dM_waysOf_125 rfl rfl rfl ?_
          refine g_iload 128 dM_waysOf_126 rfl rfl ?_
          refine g_iconst 129 (1 : Int32) dM_waysOf_128 rfl (by decide) ?_
          refine g_iadd 130 dM_waysOf_129 rfl ?_
          refine g_iload_n 131 (i := 3) dM_waysOf_130 rfl rfl rfl ?_
          obtain ⟨_, e11, h⟩ := x_bind h
          obtain ⟨t12, e12, h⟩ := x_bind h
          refine g_cV 134 (some (.int t12)) w10 [.int (v5 + (1 : Int32)), .int v3] [] dM_waysOf_131 rfl (fun _ hK2 => mM_isOpen (d - 1) (by omega) e12 hK2) (x_ob_some e11) kM_87 (x_rm (Nat.le_trans (by decide) hd) (by decide)) ⟨Nat.zero_le _, Nat.zero_le _⟩ (Nat.le_of_ble_eq_true rfl) rfl ?_
          by_cases c13 : t12 = (0 : Int32)
          · rw [if_pos c13] at h
            refine g_if_eq_t 144 dM_waysOf_134 (by decide) c13 ?_
            refine g_iload 146 dM_waysOf_144 rfl rfl ?_
            refine g_istore 148 [some (.ref v0), none, some (.int v2), some (.int v3), some (.int v4), some (.int v5), some (.int v6), some (.int v7)] dM_waysOf_146 rfl rfl (by decide) ?_
            refine g_iinc 151 [some (.ref v0), none, some (.int v2), some (.int v3), some (.int v4), some (.int v5), some (.int v6), some (.int (v7 + (1 : Int32)))] dM_waysOf_148 rfl rfl (x_inc (1 : Int32) (by decide)) rfl (by decide) ?_
            refine g_goto 21 dM_waysOf_151 (by decide) ?_
            exact hk21 _ _ _ _ _ _ _ _ h
          · rw [if_neg c13] at h
            refine g_if_eq_f 137 144 dM_waysOf_134 (by decide) rfl c13 ?_
            refine g_iload 139 dM_waysOf_137 rfl rfl ?_
            refine g_iconst 140 (1 : Int32) dM_waysOf_139 rfl (by decide) ?_
            refine g_iadd 141 dM_waysOf_140 rfl ?_
            refine g_goto 146 dM_waysOf_141 (by decide) ?_
            refine g_istore 148 [some (.ref v0), none, some (.int v2), some (.int v3), some (.int (v4 + (1 : Int32))), some (.int v5), some (.int v6), some (.int v7)] dM_waysOf_146 rfl rfl (by decide) ?_
            refine g_iinc 151 [some (.ref v0), none, some (.int v2), some (.int v3), some (.int (v4 + (1 : Int32))), some (.int v5), some (.int v6), some (.int (v7 + (1 : Int32)))] dM_waysOf_148 rfl rfl (x_inc (1 : Int32) (by decide)) rfl (by decide) ?_
            refine g_goto 21 dM_waysOf_151 (by decide) ?_
            exact hk21 _ _ _ _ _ _ _ _ h
        · rw [if_neg c8] at h
          refine g_icmp_ne_t 154 dM_waysOf_114 (by decide) c8 ?_
          refine g_aload_n 155 (i := 0) dM_waysOf_154 rfl rfl rfl ?_
          obtain ⟨t14, e14, h⟩ := x_bind h
          refine g_getfR 158 5 5 dM_waysOf_155 rfl x_in5 tw_3_0 rfl (by decide) e14 ?_
          refine g_iload 160 dM_waysOf_158 rfl rfl ?_
          refine g_iload 162 dM_waysOf_160 rfl rfl ?_
          obtain ⟨w15, e15, h⟩ := x_bind h
          refine g_iast 163 dM_waysOf_162 rfl e15 ?_
          refine g_iload 165 dM_waysOf_163 rfl rfl ?_
          refine g_iconst 166 (1 : Int32) dM_waysOf_165 rfl (by decide) ?_
          refine g_iload 168 dM_waysOf_166 rfl rfl ?_
          refine g_ishl 169 dM_waysOf_168 rfl ?_
          refine g_ior 170 dM_waysOf_169 rfl ?_
          refine g_istore 172 [some (.ref v0), none, some (.int v2), some (.int v3), some (.int v4), some (.int v5), some (.int (v6 ||| ((1 : Int32) <<< (v7 &&& 31)))), some (.int v7)] dM_waysOf_170 rfl rfl (by decide) ?_
          refine g_iinc 175 [some (.ref v0), none, some (.int v2), some (.int v3), some (.int v4), some (.int (v5 + (1 : Int32))), some (.int (v6 ||| ((1 : Int32) <<< (v7 &&& 31)))), some (.int v7)] dM_waysOf_172 rfl rfl (x_inc (1 : Int32) (by decide)) rfl (by decide) ?_
          refine g_iconst 176 (0 : Int32) dM_waysOf_175 rfl (by decide) ?_
          refine g_istore 178 [some (.ref v0), none, some (.int v2), some (.int v3), some (.int v4), some (.int (v5 + (1 : Int32))), some (.int (v6 ||| ((1 : Int32) <<< (v7 &&& 31)))), some (.int (0 : Int32))] dM_waysOf_176 rfl rfl (by decide) ?_
          refine g_goto 21 dM_waysOf_178 (by decide) ?_
          exact hk21 _ _ _ _ _ _ _ _ h
    · rw [if_neg c3] at h
      refine g_icmp_ge_f 35 69 dM_waysOf_32 (by decide) rfl c3 ?_
      refine g_iload 37 dM_waysOf_35 rfl rfl ?_
      refine g_iload 39 dM_waysOf_37 rfl rfl ?_
      refine g_cS 42 (some (.int (fM_has v6 v7))) w [.int v6, .int v7] [] dM_waysOf_39 rfl (fun _ hK2 => mM_has (d - 1) (by omega) rfl hK2) kM_62 (x_rm (Nat.le_trans (by decide) hd) (by decide)) ⟨Nat.zero_le _, Nat.zero_le _⟩ (Nat.le_of_ble_eq_true rfl) rfl ?_
      by_cases c16 : (fM_has v6 v7) = (0 : Int32)
      · rw [if_pos c16] at h
        refine g_if_ne_f 45 63 dM_waysOf_42 (by decide) rfl c16 ?_
        refine g_aload_n 46 (i := 0) dM_waysOf_45 rfl rfl rfl ?_
        refine g_aload_n 47 (i := 0) dM_waysOf_46 rfl rfl rfl ?_
        obtain ⟨t17, e17, h⟩ := x_bind h
        refine g_getfR 50 5 5 dM_waysOf_47 rfl x_in5 tw_3_0 rfl (by decide) e17 ?_
        refine g_iload 52 dM_waysOf_50 rfl rfl ?_
        refine g_iconst 53 (1 : Int32) dM_waysOf_52 rfl (by decide) ?_
        refine g_isub 54 dM_waysOf_53 rfl ?_
        obtain ⟨t18, e18, h⟩ := x_bind h
        refine g_iald 55 dM_waysOf_54 rfl e18 ?_
        refine g_iload 57 dM_waysOf_55 rfl rfl ?_
        obtain ⟨t19, e19, h⟩ := x_bind h
        refine g_cV 60 (some (.int t19)) w [.int t18, .int v7] [] dM_waysOf_57 rfl (fun _ hK2 => mM_isJoined (d - 1) (by omega) e19 hK2) (x_fr_ob e17) kM_84 (x_rm (Nat.le_trans (by decide) hd) (by decide)) ⟨Nat.zero_le _, Nat.zero_le _⟩ (Nat.le_of_ble_eq_true rfl) rfl ?_
        by_cases c20 : t19 = (0 : Int32)
        · rw [if_pos c20] at h
          refine g_if_ne_f 63 69 dM_waysOf_60 (by decide) rfl c20 ?_
          refine g_iinc 66 [some (.ref v0), none, some (.int v2), some (.int v3), some (.int v4), some (.int v5), some (.int v6), some (.int (v7 + (1 : Int32)))] dM_waysOf_63 rfl rfl (x_inc (1 : Int32) (by decide)) rfl (by decide) ?_
          refine g_goto 26 dM_waysOf_66 (by decide) ?_
          exact ih _ _ _ _ _ _ _ _ h
        · rw [if_neg c20] at h
          refine g_if_ne_t 69 dM_waysOf_60 (by decide) c20 ?_
          refine g_iload 71 dM_waysOf_69 rfl rfl ?_
          refine g_aload_n 72 (i := 0) dM_waysOf_71 rfl rfl rfl ?_
          obtain ⟨t21, e21, h⟩ := x_bind h
          refine g_cV 75 (some (.int t21)) w [] [.int v7] dM_waysOf_72 rfl (fun _ hK2 => mM_n (d - 1) (by omega) e21 hK2) (x_fr_ob e17) kM_44 (x_rm (Nat.le_trans (by decide) hd) (by decide)) ⟨Nat.zero_le _, Nat.zero_le _⟩ (Nat.le_of_ble_eq_true rfl) rfl ?_
          by_cases c22 : v7 = t21
          · rw [if_pos c22] at h
            refine g_icmp_ne_f 78 111 dM_waysOf_75 (by decide) rfl c22 ?_
            refine g_iinc 81 [some (.ref v0), none, some (.int v2), some (.int v3), some (.int v4), some (.int (v5 + (-1 : Int32))), some (.int v6), some (.int v7)] dM_waysOf_78 rfl rfl (x_inc (-1 : Int32) (by decide)) rfl (by decide) ?_
            refine g_iload 83 dM_waysOf_81 rfl rfl ?_
            refine g_iconst 84 (1 : Int32) dM_waysOf_83 rfl (by decide) ?_
            refine g_aload_n 85 (i := 0) dM_waysOf_84 rfl rfl rfl ?_
            refine g_getfR 88 5 5 dM_waysOf_85 rfl x_in5 tw_3_0 rfl (by decide) e17 ?_
            refine g_iload 90 dM_waysOf_88 rfl rfl ?_
            obtain ⟨t23, e23, h⟩ := x_bind h
            refine g_iald 91 dM_waysOf_90 rfl e23 ?_
            refine g_ishl 92 dM_waysOf_91 rfl ?_
            refine g_iconst 93 (-1 : Int32) dM_waysOf_92 rfl (by decide) ?_
            refine g_ixor 94 dM_waysOf_93 rfl ?_
            refine g_iand 95 dM_waysOf_94 rfl ?_
            refine g_istore 97 [some (.ref v0), none, some (.int v2), some (.int v3), some (.int v4), some (.int (v5 + (-1 : Int32))), some (.int (v6 &&& (((1 : Int32) <<< (t23 &&& 31)) ^^^ (-1 : Int32)))), some (.int v7)] dM_waysOf_95 rfl rfl (by decide) ?_
            refine g_aload_n 98 (i := 0) dM_waysOf_97 rfl rfl rfl ?_
            refine g_getfR 101 5 5 dM_waysOf_98 rfl x_in5 tw_3_0 rfl (by decide) e17 ?_
            refine g_iload 103 dM_waysOf_101 rfl rfl ?_
            refine g_iald 104 dM_waysOf_103 rfl e23 ?_
            refine g_iconst 105 (1 : Int32) dM_waysOf_104 rfl (by decide) ?_
            refine g_iadd 106 dM_waysOf_105 rfl ?_
            refine g_istore 108 [some (.ref v0), none, some (.int v2), some (.int v3), some (.int v4), some (.int (v5 + (-1 : Int32))), some (.int (v6 &&& (((1 : Int32) <<< (t23 &&& 31)) ^^^ (-1 : Int32)))), some (.int (t23 + (1 : Int32)))] dM_waysOf_106 rfl rfl (by decide) ?_
            refine g_goto 21 dM_waysOf_108 (by decide) ?_
            exact hk21 _ _ _ _ _ _ _ _ h
          · rw [if_neg c22] at h
            refine g_icmp_ne_t 111 dM_waysOf_75 (by decide) c22 ?_
            refine g_iload 113 dM_waysOf_111 rfl rfl ?_
            refine g_iload_n 114 (i := 2) dM_waysOf_113 rfl rfl rfl ?_
            by_cases c24 : v7 = v2
            · rw [if_pos c24] at h
              refine g_icmp_ne_f 117 154 dM_waysOf_114 (by decide) rfl c24 ?_
              refine g_aload_n 118 (i := 0) dM_waysOf_117 rfl rfl rfl ?_
              refine g_getfR 121 5 5 dM_waysOf_118 rfl x_in5 tw_3_0 rfl (by decide) e17 ?_
              refine g_iload 123 dM_waysOf_121 rfl rfl ?_
              refine g_iload_n 124 (i := 2) dM_waysOf_123 rfl rfl rfl ?_
              obtain ⟨w25, e25, h⟩ := x_bind h
              refine g_iast 125 dM_waysOf_124 rfl e25 ?_
              refine g_aload_n 126 (i := 0) dM_waysOf_125 rfl rfl rfl ?_
              refine g_iload 128 dM_waysOf_126 rfl rfl ?_
              refine g_iconst 129 (1 : Int32) dM_waysOf_128 rfl (by decide) ?_
              refine g_iadd 130 dM_waysOf_129 rfl ?_
              refine g_iload_n 131 (i := 3) dM_waysOf_130 rfl rfl rfl ?_
              obtain ⟨_, e26, h⟩ := x_bind h
              obtain ⟨t27, e27, h⟩ := x_bind h
              refine g_cV 134 (some (.int t27)) w25 [.int (v5 + (1 : Int32)), .int v3] [] dM_waysOf_131 rfl (fun _ hK2 => mM_isOpen (d - 1) (by omega) e27 hK2) (x_ob_some e26) kM_87 (x_rm (Nat.le_trans (by decide) hd) (by decide)) ⟨Nat.zero_le _, Nat.zero_le _⟩ (Nat.le_of_ble_eq_true rfl) rfl ?_
              by_cases c28 : t27 = (0 : Int32)
              · rw [if_pos c28] at h
                refine g_if_eq_t 144 dM_waysOf_134 (by decide) c28 ?_
                refine g_iload 146 dM_waysOf_144 rfl rfl ?_
                refine g_istore 148 [some (.ref v0), none, some (.int v2), some (.int v3), some (.int v4), some (.int v5), some (.int v6), some (.int v7)] dM_waysOf_146 rfl rfl (by decide) ?_
                refine g_iinc 151 [some (.ref v0), none, some (.int v2), some (.int v3), some (.int v4), some (.int v5), some (.int v6), some (.int (v7 + (1 : Int32)))] dM_waysOf_148 rfl rfl (x_inc (1 : Int32) (by decide)) rfl (by decide) ?_
                refine g_goto 21 dM_waysOf_151 (by decide) ?_
                exact hk21 _ _ _ _ _ _ _ _ h
              · rw [if_neg c28] at h
                refine g_if_eq_f 137 144 dM_waysOf_134 (by decide) rfl c28 ?_
                refine g_iload 139 dM_waysOf_137 rfl rfl ?_
                refine g_iconst 140 (1 : Int32) dM_waysOf_139 rfl (by decide) ?_
                refine g_iadd 141 dM_waysOf_140 rfl ?_
                refine g_goto 146 dM_waysOf_141 (by decide) ?_
                refine g_istore 148 [some (.ref v0), none, some (.int v2), some (.int v3), some (.int (v4 + (1 : Int32))), some (.int v5), some (.int v6), some (.int v7)] dM_waysOf_146 rfl rfl (by decide) ?_
                refine g_iinc 151 [some (.ref v0), none, some (.int v2), some (.int v3), some (.int (v4 + (1 : Int32))), some (.int v5), some (.int v6), some (.int (v7 + (1 : Int32)))] dM_waysOf_148 rfl rfl (x_inc (1 : Int32) (by decide)) rfl (by decide) ?_
                refine g_goto 21 dM_waysOf_151 (by decide) ?_
                exact hk21 _ _ _ _ _ _ _ _ h
            · rw [if_neg c24] at h
              refine g_icmp_ne_t 154 dM_waysOf_114 (by decide) c24 ?_
              refine g_aload_n 155 (i := 0) dM_waysOf_154 rfl rfl rfl ?_
              refine g_getfR 158 5 5 dM_waysOf_155 rfl x_in5 tw_3_0 rfl (by decide) e17 ?_
              refine g_iload 160 dM_waysOf_158 rfl rfl ?_
              refine g_iload 162 dM_waysOf_160 rfl rfl ?_
              obtain ⟨w29, e29, h⟩ := x_bind h
              refine g_iast 163 dM_waysOf_162 rfl e29 ?_
              refine g_iload 165 dM_waysOf_163 rfl rfl ?_
              refine g_iconst 166 (1 : Int32) dM_waysOf_165 rfl (by decide) ?_
              refine g_iload 168 dM_waysOf_166 rfl rfl ?_
              refine g_ishl 169 dM_waysOf_168 rfl ?_
              refine g_ior 170 dM_waysOf_169 rfl ?_
              refine g_istore 172 [some (.ref v0), none, some (.int v2), some (.int v3), some (.int v4), some (.int v5), some (.int (v6 ||| ((1 : Int32) <<< (v7 &&& 31)))), some (.int v7)] dM_waysOf_170 rfl rfl (by decide) ?_
              refine g_iinc 175 [some (.ref v0), none, some (.int v2), some (.int v3), some (.int v4), some (.int (v5 + (1 : Int32))), some (.int (v6 ||| ((1 : Int32) <<< (v7 &&& 31)))), some (.int v7)] dM_waysOf_172 rfl rfl (x_inc (1 : Int32) (by decide)) rfl (by decide) ?_
              refine g_iconst 176 (0 : Int32) dM_waysOf_175 rfl (by decide) ?_
              refine g_istore 178 [some (.ref v0), none, some (.int v2), some (.int v3), some (.int v4), some (.int (v5 + (1 : Int32))), some (.int (v6 ||| ((1 : Int32) <<< (v7 &&& 31)))), some (.int (0 : Int32))] dM_waysOf_176 rfl rfl (by decide) ?_
              refine g_goto 21 dM_waysOf_178 (by decide) ?_
              exact hk21 _ _ _ _ _ _ _ _ h
      · rw [if_neg c16] at h
        refine g_if_ne_t 63 dM_waysOf_42 (by decide) c16 ?_
        refine g_iinc 66 [some (.ref v0), none, some (.int v2), some (.int v3), some (.int v4), some (.int v5), some (.int v6), some (.int (v7 + (1 : Int32)))] dM_waysOf_63 rfl rfl (x_inc (1 : Int32) (by decide)) rfl (by decide) ?_
        refine g_goto 26 dM_waysOf_66 (by decide) ?_
        exact ih _ _ _ _ _ _ _ _ h
set_option maxHeartbeats 4000000 in
set_option maxRecDepth 100000 in
theorem lM_waysOf_21 (d : Nat) (hd : 7 ≤ d) {K : Option Value → x_W → Prop} {r : (Int32 × x_W)} (hK : K (some (.int r.1)) r.2) : ∀ (n : Nat) (w : x_W) (v0 : Nat) (v2 : Int32) (v3 : Int32) (v4 : Int32) (v5 : Int32) (v6 : Int32) (v7 : Int32), fM_waysOf_21 n w v0 v2 v3 v4 v5 v6 v7 = some r → x_G none yM_waysOf cM_waysOf 8 (some .int) (x_room d 0 0) (x_QM K 0 0) 21 [some (.ref v0), none, some (.int v2), some (.int v3), some (.int v4), some (.int v5), some (.int v6), some (.int v7)] [] w 0 0 := by
  intro n
  induction n with
  | zero => intro w v0 v2 v3 v4 v5 v6 v7 h; rw [fM_waysOf_21] at h; cases h
  | succ n ih =>
    intro w v0 v2 v3 v4 v5 v6 v7 h
    rw [fM_waysOf_21] at h
    refine g_iload 23 dM_waysOf_21 rfl rfl ?_
    by_cases c1 : v5 ≤ (0 : Int32)
    · rw [if_pos c1] at h
      refine g_if_le_t 181 dM_waysOf_23 (by decide) c1 ?_
      refine g_iload 183 dM_waysOf_181 rfl rfl ?_
      obtain rfl := Option.some.inj h
      exact g_iret rfl dM_waysOf_183 hK
    · rw [if_neg c1] at h
      refine g_if_le_f 26 181 dM_waysOf_23 (by decide) rfl c1 ?_
      exact lM_waysOf_26 d hd hK (fun _ _ _ _ _ _ _ _ hz => ih _ _ _ _ _ _ _ _ hz) x_F _ _ _ _ _ _ _ _ h
set_option maxHeartbeats 4000000 in
set_option maxRecDepth 100000 in
theorem mM_waysOf (d : Nat) (hd : 7 ≤ d) {K : Option Value → x_W → Prop} {w : x_W} {v0 : Nat} {v1 : Int32} {v2 : Int32} {v3 : Int32} {r : (Int32 × x_W)} (h : fM_waysOf w v0 v1 v2 v3 = some r) (hK : K (some (.int r.1)) r.2) : x_M yM_waysOf cM_waysOf 8 (some .int) d 0 0 [.ref v0, .int v1, .int v2, .int v3] w K := by
  refine x_M.of [some (.ref v0), some (.int v1), some (.int v2), some (.int v3), none, none, none, none] (by decide) rfl (Nat.le_of_ble_eq_true rfl) ?_
  unfold fM_waysOf at h
  refine g_iconst 1 (0 : Int32) dM_waysOf_0 rfl (by decide) ?_
  refine g_istore 3 [some (.ref v0), some (.int v1), some (.int v2), some (.int v3), some (.int (0 : Int32)), none, none, none] dM_waysOf_1 rfl rfl (by decide) ?_
  refine g_iconst 4 (1 : Int32) dM_waysOf_3 rfl (by decide) ?_
  refine g_istore 6 [some (.ref v0), some (.int v1), some (.int v2), some (.int v3), some (.int (0 : Int32)), some (.int (1 : Int32)), none, none] dM_waysOf_4 rfl rfl (by decide) ?_
  refine g_aload_n 7 (i := 0) dM_waysOf_6 rfl rfl rfl ?_
  obtain ⟨t1, e1, h⟩ := x_bind h
  refine g_getfR 10 5 5 dM_waysOf_7 rfl x_in5 tw_3_0 rfl (by decide) e1 ?_
  refine g_iconst 11 (0 : Int32) dM_waysOf_10 rfl (by decide) ?_
  refine g_iload_n 12 (i := 1) dM_waysOf_11 rfl rfl rfl ?_
  obtain ⟨w2, e2, h⟩ := x_bind h
  refine g_iast 13 dM_waysOf_12 rfl e2 ?_
  refine g_iconst 14 (1 : Int32) dM_waysOf_13 rfl (by decide) ?_
  refine g_iload_n 15 (i := 1) dM_waysOf_14 rfl rfl rfl ?_
  refine g_ishl 16 dM_waysOf_15 rfl ?_
  refine g_istore 18 [some (.ref v0), some (.int v1), some (.int v2), some (.int v3), some (.int (0 : Int32)), some (.int (1 : Int32)), some (.int ((1 : Int32) <<< (v1 &&& 31))), none] dM_waysOf_16 rfl rfl (by decide) ?_
  refine g_iconst 19 (0 : Int32) dM_waysOf_18 rfl (by decide) ?_
  refine g_istore 21 [some (.ref v0), some (.int v1), some (.int v2), some (.int v3), some (.int (0 : Int32)), some (.int (1 : Int32)), some (.int ((1 : Int32) <<< (v1 &&& 31))), some (.int (0 : Int32))] dM_waysOf_19 rfl rfl (by decide) ?_
  refine g_less [some (.ref v0), none, some (.int v2), some (.int v3), some (.int (0 : Int32)), some (.int (1 : Int32)), some (.int ((1 : Int32) <<< (v1 &&& 31))), some (.int (0 : Int32))] ⟨rfl, rfl, rfl, rfl, rfl, rfl, rfl, trivial⟩ ?_
  exact lM_waysOf_21 d hd hK x_F _ _ _ _ _ _ _ _ h
/-! ActSurgeryModel.isPair(III)Z: level P -/
theorem dM_isPair_0 : decode cM_isPair 0 = .ok (.aload_n 0, 1) := by decide +kernel
theorem dM_isPair_1 : decode cM_isPair 1 = .ok (.iload_n 1, 1) := by decide +kernel
theorem dM_isPair_2 : decode cM_isPair 2 = .ok (.invokevirtual 55, 3) := by decide +kernel
theorem dM_isPair_5 : decode cM_isPair 5 = .ok (.ifCond .eq 44, 3) := by decide +kernel
theorem dM_isPair_8 : decode cM_isPair 8 = .ok (.aload_n 0, 1) := by decide +kernel
theorem dM_isPair_9 : decode cM_isPair 9 = .ok (.iload_n 2, 1) := by decide +kernel
theorem dM_isPair_10 : decode cM_isPair 10 = .ok (.invokevirtual 55, 3) := by decide +kernel
theorem dM_isPair_13 : decode cM_isPair 13 = .ok (.ifCond .eq 36, 3) := by decide +kernel
theorem dM_isPair_16 : decode cM_isPair 16 = .ok (.aload_n 0, 1) := by decide +kernel
theorem dM_isPair_17 : decode cM_isPair 17 = .ok (.iload_n 3, 1) := by decide +kernel
theorem dM_isPair_18 : decode cM_isPair 18 = .ok (.invokevirtual 59, 3) := by decide +kernel
theorem dM_isPair_21 : decode cM_isPair 21 = .ok (.ifCond .eq 28, 3) := by decide +kernel
theorem dM_isPair_24 : decode cM_isPair 24 = .ok (.iload_n 1, 1) := by decide +kernel
theorem dM_isPair_25 : decode cM_isPair 25 = .ok (.iload_n 2, 1) := by decide +kernel
theorem dM_isPair_26 : decode cM_isPair 26 = .ok (.if_icmp .eq 23, 3) := by decide +kernel
theorem dM_isPair_29 : decode cM_isPair 29 = .ok (.iload_n 3, 1) := by decide +kernel
theorem dM_isPair_30 : decode cM_isPair 30 = .ok (.iload_n 1, 1) := by decide +kernel
theorem dM_isPair_31 : decode cM_isPair 31 = .ok (.invokestatic 62, 3) := by decide +kernel
theorem dM_isPair_34 : decode cM_isPair 34 = .ok (.ifCond .ne 15, 3) := by decide +kernel
theorem dM_isPair_37 : decode cM_isPair 37 = .ok (.iload_n 3, 1) := by decide +kernel
theorem dM_isPair_38 : decode cM_isPair 38 = .ok (.iload_n 2, 1) := by decide +kernel
theorem dM_isPair_39 : decode cM_isPair 39 = .ok (.invokestatic 62, 3) := by decide +kernel
theorem dM_isPair_42 : decode cM_isPair 42 = .ok (.ifCond .ne 7, 3) := by decide +kernel
theorem dM_isPair_45 : decode cM_isPair 45 = .ok (.iconst 1, 1) := by decide +kernel
theorem dM_isPair_46 : decode cM_isPair 46 = .ok (.goto 4, 3) := by decide +kernel
theorem dM_isPair_49 : decode cM_isPair 49 = .ok (.iconst 0, 1) := by decide +kernel
theorem dM_isPair_50 : decode cM_isPair 50 = .ok (.ireturn, 1) := by decide +kernel
def fM_isPair (w : x_W) (v0 : Nat) (v1 : Int32) (v2 : Int32) (v3 : Int32) : Option Int32 :=
  (x_ob w v0 5).bind fun _ =>
  (fM_isPlace w v0 v1).bind fun t2 =>
  if t2 = (0 : Int32) then
    some (0 : Int32)
  else
    (fM_isPlace w v0 v2).bind fun t4 =>
    if t4 = (0 : Int32) then
      some (0 : Int32)
    else
      (fM_isSet w v0 v3).bind fun t6 =>
      if t6 = (0 : Int32) then
        some (0 : Int32)
      else
        if v1 = v2 then
          some (0 : Int32)
        else
          if (fM_has v3 v1) = (0 : Int32) then
            if (fM_has v3 v2) = (0 : Int32) then
              some (1 : Int32)
            else
              some (0 : Int32)
          else
            some (0 : Int32)
set_option maxHeartbeats 4000000 in
set_option maxRecDepth 100000 in
theorem mM_isPair (d : Nat) (hd : 4 ≤ d) {K : Option Value → x_W → Prop} {w : x_W} {v0 : Nat} {v1 : Int32} {v2 : Int32} {v3 : Int32} {r : Int32} (h : fM_isPair w v0 v1 v2 v3 = some r) (hK : K (some (.int r)) w) : x_M yM_isPair cM_isPair 4 (some .boolean) d 0 0 [.ref v0, .int v1, .int v2, .int v3] w K := by
  refine x_M.of [some (.ref v0), some (.int v1), some (.int v2), some (.int v3)] (by decide) rfl (Nat.le_of_ble_eq_true rfl) ?_
  unfold fM_isPair at h
  refine g_aload_n 1 (i := 0) dM_isPair_0 rfl rfl rfl ?_
  refine g_iload_n 2 (i := 1) dM_isPair_1 rfl rfl rfl ?_
  obtain ⟨_, e1, h⟩ := x_bind h
  obtain ⟨t2, e2, h⟩ := x_bind h
  refine g_cV 5 (some (.int t2)) w [.int v1] [] dM_isPair_2 rfl (fun _ hK2 => mM_isPlace (d - 1) (by omega) e2 hK2) (x_ob_some e1) kM_55 (x_rm (Nat.le_trans (by decide) hd) (by decide)) ⟨Nat.zero_le _, Nat.zero_le _⟩ (Nat.le_of_ble_eq_true rfl) rfl ?_
  by_cases c3 : t2 = (0 : Int32)
  · rw [if_pos c3] at h
    refine g_if_eq_t 49 dM_isPair_5 (by decide) c3 ?_
    refine g_iconst 50 (0 : Int32) dM_isPair_49 rfl (by decide) ?_
    obtain rfl := Option.some.inj h
    exact g_zret rfl (by decide) dM_isPair_50 hK
  · rw [if_neg c3] at h
    refine g_if_eq_f 8 49 dM_isPair_5 (by decide) rfl c3 ?_
    refine g_aload_n 9 (i := 0) dM_isPair_8 rfl rfl rfl ?_
    refine g_iload_n 10 (i := 2) dM_isPair_9 rfl rfl rfl ?_
    obtain ⟨t4, e4, h⟩ := x_bind h
    refine g_cV 13 (some (.int t4)) w [.int v2] [] dM_isPair_10 rfl (fun _ hK2 => mM_isPlace (d - 1) (by omega) e4 hK2) (x_ob_some e1) kM_55 (x_rm (Nat.le_trans (by decide) hd) (by decide)) ⟨Nat.zero_le _, Nat.zero_le _⟩ (Nat.le_of_ble_eq_true rfl) rfl ?_
    by_cases c5 : t4 = (0 : Int32)
    · rw [if_pos c5] at h
      refine g_if_eq_t 49 dM_isPair_13 (by decide) c5 ?_
      refine g_iconst 50 (0 : Int32) dM_isPair_49 rfl (by decide) ?_
      obtain rfl := Option.some.inj h
      exact g_zret rfl (by decide) dM_isPair_50 hK
    · rw [if_neg c5] at h
      refine g_if_eq_f 16 49 dM_isPair_13 (by decide) rfl c5 ?_
      refine g_aload_n 17 (i := 0) dM_isPair_16 rfl rfl rfl ?_
      refine g_iload_n 18 (i := 3) dM_isPair_17 rfl rfl rfl ?_
      obtain ⟨t6, e6, h⟩ := x_bind h
      refine g_cV 21 (some (.int t6)) w [.int v3] [] dM_isPair_18 rfl (fun _ hK2 => mM_isSet (d - 1) (by omega) e6 hK2) (x_ob_some e1) kM_59 (x_rm (Nat.le_trans (by decide) hd) (by decide)) ⟨Nat.zero_le _, Nat.zero_le _⟩ (Nat.le_of_ble_eq_true rfl) rfl ?_
      by_cases c7 : t6 = (0 : Int32)
      · rw [if_pos c7] at h
        refine g_if_eq_t 49 dM_isPair_21 (by decide) c7 ?_
        refine g_iconst 50 (0 : Int32) dM_isPair_49 rfl (by decide) ?_
        obtain rfl := Option.some.inj h
        exact g_zret rfl (by decide) dM_isPair_50 hK
      · rw [if_neg c7] at h
        refine g_if_eq_f 24 49 dM_isPair_21 (by decide) rfl c7 ?_
        refine g_iload_n 25 (i := 1) dM_isPair_24 rfl rfl rfl ?_
        refine g_iload_n 26 (i := 2) dM_isPair_25 rfl rfl rfl ?_
        by_cases c8 : v1 = v2
        · rw [if_pos c8] at h
          refine g_icmp_eq_t 49 dM_isPair_26 (by decide) c8 ?_
          refine g_iconst 50 (0 : Int32) dM_isPair_49 rfl (by decide) ?_
          obtain rfl := Option.some.inj h
          exact g_zret rfl (by decide) dM_isPair_50 hK
        · rw [if_neg c8] at h
          refine g_icmp_eq_f 29 49 dM_isPair_26 (by decide) rfl c8 ?_
          refine g_iload_n 30 (i := 3) dM_isPair_29 rfl rfl rfl ?_
          refine g_iload_n 31 (i := 1) dM_isPair_30 rfl rfl rfl ?_
          refine g_cS 34 (some (.int (fM_has v3 v1))) w [.int v3, .int v1] [] dM_isPair_31 rfl (fun _ hK2 => mM_has (d - 1) (by omega) rfl hK2) kM_62 (x_rm (Nat.le_trans (by decide) hd) (by decide)) ⟨Nat.zero_le _, Nat.zero_le _⟩ (Nat.le_of_ble_eq_true rfl) rfl ?_
          by_cases c9 : (fM_has v3 v1) = (0 : Int32)
          · rw [if_pos c9] at h
            refine g_if_ne_f 37 49 dM_isPair_34 (by decide) rfl c9 ?_
            refine g_iload_n 38 (i := 3) dM_isPair_37 rfl rfl rfl ?_
            refine g_iload_n 39 (i := 2) dM_isPair_38 rfl rfl rfl ?_
            refine g_cS 42 (some (.int (fM_has v3 v2))) w [.int v3, .int v2] [] dM_isPair_39 rfl (fun _ hK2 => mM_has (d - 1) (by omega) rfl hK2) kM_62 (x_rm (Nat.le_trans (by decide) hd) (by decide)) ⟨Nat.zero_le _, Nat.zero_le _⟩ (Nat.le_of_ble_eq_true rfl) rfl ?_
            by_cases c10 : (fM_has v3 v2) = (0 : Int32)
            · rw [if_pos c10] at h
              refine g_if_ne_f 45 49 dM_isPair_42 (by decide) rfl c10 ?_
              refine g_iconst 46 (1 : Int32) dM_isPair_45 rfl (by decide) ?_
              refine g_goto 50 dM_isPair_46 (by decide) ?_
              obtain rfl := Option.some.inj h
              exact g_zret rfl (by decide) dM_isPair_50 hK
            · rw [if_neg c10] at h
              refine g_if_ne_t 49 dM_isPair_42 (by decide) c10 ?_
              refine g_iconst 50 (0 : Int32) dM_isPair_49 rfl (by decide) ?_
              obtain rfl := Option.some.inj h
              exact g_zret rfl (by decide) dM_isPair_50 hK
          · rw [if_neg c9] at h
            refine g_if_ne_t 49 dM_isPair_34 (by decide) c9 ?_
            refine g_iconst 50 (0 : Int32) dM_isPair_49 rfl (by decide) ?_
            obtain rfl := Option.some.inj h
            exact g_zret rfl (by decide) dM_isPair_50 hK
/-! ActSurgeryModel.parted(III)I: level X -/
theorem dM_parted_0 : decode cM_parted 0 = .ok (.aload_n 0, 1) := by decide +kernel
theorem dM_parted_1 : decode cM_parted 1 = .ok (.iconst 0, 1) := by decide +kernel
theorem dM_parted_2 : decode cM_parted 2 = .ok (.putfield 66, 3) := by decide +kernel
theorem dM_parted_5 : decode cM_parted 5 = .ok (.aload_n 0, 1) := by decide +kernel
theorem dM_parted_6 : decode cM_parted 6 = .ok (.iload_n 1, 1) := by decide +kernel
theorem dM_parted_7 : decode cM_parted 7 = .ok (.iload_n 2, 1) := by decide +kernel
theorem dM_parted_8 : decode cM_parted 8 = .ok (.iload_n 3, 1) := by decide +kernel
theorem dM_parted_9 : decode cM_parted 9 = .ok (.invokevirtual 90, 3) := by decide +kernel
theorem dM_parted_12 : decode cM_parted 12 = .ok (.ifCond .ne 8, 3) := by decide +kernel
theorem dM_parted_15 : decode cM_parted 15 = .ok (.bipush (-2), 2) := by decide +kernel
theorem dM_parted_17 : decode cM_parted 17 = .ok (.goto 18, 3) := by decide +kernel
theorem dM_parted_20 : decode cM_parted 20 = .ok (.aload_n 0, 1) := by decide +kernel
theorem dM_parted_21 : decode cM_parted 21 = .ok (.iload_n 1, 1) := by decide +kernel
theorem dM_parted_22 : decode cM_parted 22 = .ok (.iload_n 2, 1) := by decide +kernel
theorem dM_parted_23 : decode cM_parted 23 = .ok (.iload_n 3, 1) := by decide +kernel
theorem dM_parted_24 : decode cM_parted 24 = .ok (.invokevirtual 93, 3) := by decide +kernel
theorem dM_parted_27 : decode cM_parted 27 = .ok (.ifCond .ne 7, 3) := by decide +kernel
theorem dM_parted_30 : decode cM_parted 30 = .ok (.iconst 1, 1) := by decide +kernel
theorem dM_parted_31 : decode cM_parted 31 = .ok (.goto 4, 3) := by decide +kernel
theorem dM_parted_34 : decode cM_parted 34 = .ok (.iconst 0, 1) := by decide +kernel
theorem dM_parted_35 : decode cM_parted 35 = .ok (.ireturn, 1) := by decide +kernel
theorem tw_3_73 : (Jvm.Cond.instanceMethod ({ cls := "ActSurgeryModel", name := "isPair", desc := "(III)Z" } : Jvm.MethodName)) ∈ x_GT := x_t3 73 rfl rfl
theorem tws_33 : (Jvm.Cond.selects "ActSurgeryModel" ({ cls := "ActSurgeryModel", name := "isPair", desc := "(III)Z" } : Jvm.MethodName) ({ cls := "ActSurgeryModel", name := "isPair", desc := "(III)Z" } : Jvm.MethodName)) ∈ x_GT := x_ts 33 rfl rfl
theorem tw_3_74 : (Jvm.Cond.code ({ cls := "ActSurgeryModel", name := "isPair", desc := "(III)Z" } : Jvm.MethodName) prog_7_method_22_code (4 : Nat) (Option.some Jvm.ClassFile.FieldType.boolean)) ∈ x_GT := x_t3 74 rfl rfl
theorem tw_3_71 : (Jvm.Cond.methodLink "ActSurgeryModel" (90 : Nat) ({ cls := "ActSurgeryModel", name := "isPair", desc := "(III)Z" } : Jvm.MethodName)) ∈ x_GT := x_t3 71 rfl rfl
theorem kM_90 : x_kV "ActSurgeryModel" 90 yM_isPair cM_isPair 4 (some .boolean) 3 5 := ⟨tw_3_73, tws_33, tw_3_74, tw_1_6, tw_3_71, (by decide +kernel), rfl⟩
theorem tw_3_80 : (Jvm.Cond.instanceMethod ({ cls := "ActSurgeryModel", name := "waysOf", desc := "(III)I" } : Jvm.MethodName)) ∈ x_GT := x_t3 80 rfl rfl
theorem tws_34 : (Jvm.Cond.selects "ActSurgeryModel" ({ cls := "ActSurgeryModel", name := "waysOf", desc := "(III)I" } : Jvm.MethodName) ({ cls := "ActSurgeryModel", name := "waysOf", desc := "(III)I" } : Jvm.MethodName)) ∈ x_GT := x_ts 34 rfl rfl
theorem tw_3_81 : (Jvm.Cond.code ({ cls := "ActSurgeryModel", name := "waysOf", desc := "(III)I" } : Jvm.MethodName) prog_7_method_21_code (8 : Nat) (Option.some Jvm.ClassFile.FieldType.int)) ∈ x_GT := x_t3 81 rfl rfl
theorem tw_3_78 : (Jvm.Cond.methodLink "ActSurgeryModel" (93 : Nat) ({ cls := "ActSurgeryModel", name := "waysOf", desc := "(III)I" } : Jvm.MethodName)) ∈ x_GT := x_t3 78 rfl rfl
theorem kM_93 : x_kV "ActSurgeryModel" 93 yM_waysOf cM_waysOf 8 (some .int) 3 5 := ⟨tw_3_80, tws_34, tw_3_81, tw_1_6, tw_3_78, (by decide +kernel), rfl⟩
def fM_parted  (w : x_W) (v0 : Nat) (v1 : Int32) (v2 : Int32) (v3 : Int32) : Option (Int32 × x_W) :=
  (x_pf w v0 5 4 (.int (0 : Int32))).bind fun w1 =>
  (x_ob w1 v0 5).bind fun _ =>
  (fM_isPair w1 v0 v1 v2 v3).bind fun t3 =>
  if t3 = (0 : Int32) then
    some ((-2 : Int32), w1)
  else
    (fM_waysOf w1 v0 v1 v2 v3).bind fun q5 =>
    if q5.1 = (0 : Int32) then
      some ((1 : Int32), q5.2)
    else
      some ((0 : Int32), q5.2)
set_option maxHeartbeats 4000000 in
set_option maxRecDepth 100000 in
theorem mM_parted (d : Nat) (hd : 8 ≤ d) {K : Option Value → x_W → Prop} {w : x_W} {v0 : Nat} {v1 : Int32} {v2 : Int32} {v3 : Int32} {r : (Int32 × x_W)} (h : fM_parted w v0 v1 v2 v3 = some r) (hK : K (some (.int r.1)) r.2) : x_M yM_parted cM_parted 4 (some .int) d 0 0 [.ref v0, .int v1, .int v2, .int v3] w K := by
  refine x_M.of [some (.ref v0), some (.int v1), some (.int v2), some (.int v3)] (by decide) rfl (Nat.le_of_ble_eq_true rfl) ?_
  unfold fM_parted at h
  refine g_aload_n 1 (i := 0) dM_parted_0 rfl rfl rfl ?_
  refine g_iconst 2 (0 : Int32) dM_parted_1 rfl (by decide) ?_
  obtain ⟨w1, e1, h⟩ := x_bind h
  refine g_putf 5 5 4 xy5 xy5_ok xn5 dM_parted_2 rfl x_in5 tw_2_239 rfl (by decide) rfl (fun _ _ => ⟨rfl, rfl⟩) e1 ?_
  refine g_aload_n 6 (i := 0) dM_parted_5 rfl rfl rfl ?_
  refine g_iload_n 7 (i := 1) dM_parted_6 rfl rfl rfl ?_
  refine g_iload_n 8 (i := 2) dM_parted_7 rfl rfl rfl ?_
  refine g_iload_n 9 (i := 3) dM_parted_8 rfl rfl rfl ?_
  obtain ⟨_, e2, h⟩ := x_bind h
  obtain ⟨t3, e3, h⟩ := x_bind h
  refine g_cV 12 (some (.int t3)) w1 [.int v1, .int v2, .int v3] [] dM_parted_9 rfl (fun _ hK2 => mM_isPair (d - 1) (by omega) e3 hK2) (x_ob_some e2) kM_90 (x_rm (Nat.le_trans (by decide) hd) (by decide)) ⟨Nat.zero_le _, Nat.zero_le _⟩ (Nat.le_of_ble_eq_true rfl) rfl ?_
  by_cases c4 : t3 = (0 : Int32)
  · rw [if_pos c4] at h
    refine g_if_ne_f 15 20 dM_parted_12 (by decide) rfl c4 ?_
    refine g_bipush 17 (-2 : Int32) dM_parted_15 rfl (by decide) ?_
    refine g_goto 35 dM_parted_17 (by decide) ?_
    obtain rfl := Option.some.inj h
    exact g_iret rfl dM_parted_35 hK
  · rw [if_neg c4] at h
    refine g_if_ne_t 20 dM_parted_12 (by decide) c4 ?_
    refine g_aload_n 21 (i := 0) dM_parted_20 rfl rfl rfl ?_
    refine g_iload_n 22 (i := 1) dM_parted_21 rfl rfl rfl ?_
    refine g_iload_n 23 (i := 2) dM_parted_22 rfl rfl rfl ?_
    refine g_iload_n 24 (i := 3) dM_parted_23 rfl rfl rfl ?_
    obtain ⟨q5, e5, h⟩ := x_bind h
    refine g_cV 27 (some (.int q5.1)) q5.2 [.int v1, .int v2, .int v3] [] dM_parted_24 rfl (fun _ hK2 => mM_waysOf (d - 1) (by omega) e5 hK2) (x_ob_some e2) kM_93 (x_rm (Nat.le_trans (by decide) hd) (by decide)) ⟨Nat.zero_le _, Nat.zero_le _⟩ (Nat.le_of_ble_eq_true rfl) rfl ?_
    by_cases c6 : q5.1 = (0 : Int32)
    · rw [if_pos c6] at h
      refine g_if_ne_f 30 34 dM_parted_27 (by decide) rfl c6 ?_
      refine g_iconst 31 (1 : Int32) dM_parted_30 rfl (by decide) ?_
      refine g_goto 35 dM_parted_31 (by decide) ?_
      obtain rfl := Option.some.inj h
      exact g_iret rfl dM_parted_35 hK
    · rw [if_neg c6] at h
      refine g_if_ne_t 34 dM_parted_27 (by decide) c6 ?_
      refine g_iconst 35 (0 : Int32) dM_parted_34 rfl (by decide) ?_
      obtain rfl := Option.some.inj h
      exact g_iret rfl dM_parted_35 hK
/-! ActSurgeryModel.ways(III)I: level X -/
theorem dM_ways_0 : decode cM_ways 0 = .ok (.aload_n 0, 1) := by decide +kernel
theorem dM_ways_1 : decode cM_ways 1 = .ok (.iconst 0, 1) := by decide +kernel
theorem dM_ways_2 : decode cM_ways 2 = .ok (.putfield 66, 3) := by decide +kernel
theorem dM_ways_5 : decode cM_ways 5 = .ok (.aload_n 0, 1) := by decide +kernel
theorem dM_ways_6 : decode cM_ways 6 = .ok (.iload_n 1, 1) := by decide +kernel
theorem dM_ways_7 : decode cM_ways 7 = .ok (.iload_n 2, 1) := by decide +kernel
theorem dM_ways_8 : decode cM_ways 8 = .ok (.iload_n 3, 1) := by decide +kernel
theorem dM_ways_9 : decode cM_ways 9 = .ok (.invokevirtual 90, 3) := by decide +kernel
theorem dM_ways_12 : decode cM_ways 12 = .ok (.ifCond .eq 13, 3) := by decide +kernel
theorem dM_ways_15 : decode cM_ways 15 = .ok (.aload_n 0, 1) := by decide +kernel
theorem dM_ways_16 : decode cM_ways 16 = .ok (.iload_n 1, 1) := by decide +kernel
theorem dM_ways_17 : decode cM_ways 17 = .ok (.iload_n 2, 1) := by decide +kernel
theorem dM_ways_18 : decode cM_ways 18 = .ok (.iload_n 3, 1) := by decide +kernel
theorem dM_ways_19 : decode cM_ways 19 = .ok (.invokevirtual 93, 3) := by decide +kernel
theorem dM_ways_22 : decode cM_ways 22 = .ok (.goto 5, 3) := by decide +kernel
theorem dM_ways_25 : decode cM_ways 25 = .ok (.bipush (-2), 2) := by decide +kernel
theorem dM_ways_27 : decode cM_ways 27 = .ok (.ireturn, 1) := by decide +kernel
def fM_ways  (w : x_W) (v0 : Nat) (v1 : Int32) (v2 : Int32) (v3 : Int32) : Option (Int32 × x_W) :=
  (x_pf w v0 5 4 (.int (0 : Int32))).bind fun w1 =>
  (x_ob w1 v0 5).bind fun _ =>
  (fM_isPair w1 v0 v1 v2 v3).bind fun t3 =>
  if t3 = (0 : Int32) then
    some ((-2 : Int32), w1)
  else
    (fM_waysOf w1 v0 v1 v2 v3).bind fun q5 =>
    some (q5.1, q5.2)
set_option maxHeartbeats 4000000 in
set_option maxRecDepth 100000 in
theorem mM_ways (d : Nat) (hd : 8 ≤ d) {K : Option Value → x_W → Prop} {w : x_W} {v0 : Nat} {v1 : Int32} {v2 : Int32} {v3 : Int32} {r : (Int32 × x_W)} (h : fM_ways w v0 v1 v2 v3 = some r) (hK : K (some (.int r.1)) r.2) : x_M yM_ways cM_ways 4 (some .int) d 0 0 [.ref v0, .int v1, .int v2, .int v3] w K := by
  refine x_M.of [some (.ref v0), some (.int v1), some (.int v2), some (.int v3)] (by decide) rfl (Nat.le_of_ble_eq_true rfl) ?_
  unfold fM_ways at h
  refine g_aload_n 1 (i := 0) dM_ways_0 rfl rfl rfl ?_
  refine g_iconst 2 (0 : Int32) dM_ways_1 rfl (by decide) ?_
  obtain ⟨w1, e1, h⟩ := x_bind h
  refine g_putf 5 5 4 xy5 xy5_ok xn5 dM_ways_2 rfl x_in5 tw_2_239 rfl (by decide) rfl (fun _ _ => ⟨rfl, rfl⟩) e1 ?_
  refine g_aload_n 6 (i := 0) dM_ways_5 rfl rfl rfl ?_
  refine g_iload_n 7 (i := 1) dM_ways_6 rfl rfl rfl ?_
  refine g_iload_n 8 (i := 2) dM_ways_7 rfl rfl rfl ?_
  refine g_iload_n 9 (i := 3) dM_ways_8 rfl rfl rfl ?_
  obtain ⟨_, e2, h⟩ := x_bind h
  obtain ⟨t3, e3, h⟩ := x_bind h
  refine g_cV 12 (some (.int t3)) w1 [.int v1, .int v2, .int v3] [] dM_ways_9 rfl (fun _ hK2 => mM_isPair (d - 1) (by omega) e3 hK2) (x_ob_some e2) kM_90 (x_rm (Nat.le_trans (by decide) hd) (by decide)) ⟨Nat.zero_le _, Nat.zero_le _⟩ (Nat.le_of_ble_eq_true rfl) rfl ?_
  by_cases c4 : t3 = (0 : Int32)
  · rw [if_pos c4] at h
    refine g_if_eq_t 25 dM_ways_12 (by decide) c4 ?_
    refine g_bipush 27 (-2 : Int32) dM_ways_25 rfl (by decide) ?_
    obtain rfl := Option.some.inj h
    exact g_iret rfl dM_ways_27 hK
  · rw [if_neg c4] at h
    refine g_if_eq_f 15 25 dM_ways_12 (by decide) rfl c4 ?_
    refine g_aload_n 16 (i := 0) dM_ways_15 rfl rfl rfl ?_
    refine g_iload_n 17 (i := 1) dM_ways_16 rfl rfl rfl ?_
    refine g_iload_n 18 (i := 2) dM_ways_17 rfl rfl rfl ?_
    refine g_iload_n 19 (i := 3) dM_ways_18 rfl rfl rfl ?_
    obtain ⟨q5, e5, h⟩ := x_bind h
    refine g_cV 22 (some (.int q5.1)) q5.2 [.int v1, .int v2, .int v3] [] dM_ways_19 rfl (fun _ hK2 => mM_waysOf (d - 1) (by omega) e5 hK2) (x_ob_some e2) kM_93 (x_rm (Nat.le_trans (by decide) hd) (by decide)) ⟨Nat.zero_le _, Nat.zero_le _⟩ (Nat.le_of_ble_eq_true rfl) rfl ?_
    refine g_goto 27 dM_ways_22 (by decide) ?_
    obtain rfl := Option.some.inj h
    exact g_iret rfl dM_ways_27 hK
