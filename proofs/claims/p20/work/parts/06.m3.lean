/-! ActSurgery$Arrows.childrenOf(I)I: level P -/
theorem dR_childrenOf_0 : decode cR_childrenOf 0 = .ok (.iconst 0, 1) := by decide +kernel
theorem dR_childrenOf_1 : decode cR_childrenOf 1 = .ok (.istore_n 2, 1) := by decide +kernel
theorem dR_childrenOf_2 : decode cR_childrenOf 2 = .ok (.iload_n 1, 1) := by decide +kernel
theorem dR_childrenOf_3 : decode cR_childrenOf 3 = .ok (.iconst 1, 1) := by decide +kernel
theorem dR_childrenOf_4 : decode cR_childrenOf 4 = .ok (.iadd, 1) := by decide +kernel
theorem dR_childrenOf_5 : decode cR_childrenOf 5 = .ok (.istore_n 3, 1) := by decide +kernel
theorem dR_childrenOf_6 : decode cR_childrenOf 6 = .ok (.iload_n 3, 1) := by decide +kernel
theorem dR_childrenOf_7 : decode cR_childrenOf 7 = .ok (.aload_n 0, 1) := by decide +kernel
theorem dR_childrenOf_8 : decode cR_childrenOf 8 = .ok (.getfield 15, 3) := by decide +kernel
theorem dR_childrenOf_11 : decode cR_childrenOf 11 = .ok (.if_icmp .ge 28, 3) := by decide +kernel
theorem dR_childrenOf_14 : decode cR_childrenOf 14 = .ok (.aload_n 0, 1) := by decide +kernel
theorem dR_childrenOf_15 : decode cR_childrenOf 15 = .ok (.getfield 9, 3) := by decide +kernel
theorem dR_childrenOf_18 : decode cR_childrenOf 18 = .ok (.iload_n 3, 1) := by decide +kernel
theorem dR_childrenOf_19 : decode cR_childrenOf 19 = .ok (.iaload, 1) := by decide +kernel
theorem dR_childrenOf_20 : decode cR_childrenOf 20 = .ok (.iload_n 1, 1) := by decide +kernel
theorem dR_childrenOf_21 : decode cR_childrenOf 21 = .ok (.invokestatic 25, 3) := by decide +kernel
theorem dR_childrenOf_24 : decode cR_childrenOf 24 = .ok (.ifCond .eq 9, 3) := by decide +kernel
theorem dR_childrenOf_27 : decode cR_childrenOf 27 = .ok (.iload_n 2, 1) := by decide +kernel
theorem dR_childrenOf_28 : decode cR_childrenOf 28 = .ok (.iconst 1, 1) := by decide +kernel
theorem dR_childrenOf_29 : decode cR_childrenOf 29 = .ok (.iload_n 3, 1) := by decide +kernel
theorem dR_childrenOf_30 : decode cR_childrenOf 30 = .ok (.ishl, 1) := by decide +kernel
theorem dR_childrenOf_31 : decode cR_childrenOf 31 = .ok (.ior, 1) := by decide +kernel
theorem dR_childrenOf_32 : decode cR_childrenOf 32 = .ok (.istore_n 2, 1) := by decide +kernel
theorem dR_childrenOf_33 : decode cR_childrenOf 33 = .ok (.iinc 3 1, 3) := by decide +kernel
theorem dR_childrenOf_36 : decode cR_childrenOf 36 = .ok (.goto (-30), 3) := by decide +kernel
theorem dR_childrenOf_39 : decode cR_childrenOf 39 = .ok (.iload_n 2, 1) := by decide +kernel
theorem dR_childrenOf_40 : decode cR_childrenOf 40 = .ok (.ireturn, 1) := by decide +kernel
def fR_childrenOf_6 (w : x_W) : Nat → Nat → Int32 → Int32 → Int32 → Option Int32
  | 0, _, _, _, _ => none
  | n + 1, v0, v1, v2, v3 =>
    (x_fi w v0 1 0).bind fun t1 =>
    if t1 ≤ v3 then
      some v2
    else
      (x_fr w v0 1 1).bind fun t3 =>
      (x_ai w t3 v3).bind fun t4 =>
      if (fA_has t4 v1) = (0 : Int32) then
        fR_childrenOf_6 w n v0 v1 v2 (v3 + (1 : Int32))
      else
        fR_childrenOf_6 w n v0 v1 (v2 ||| ((1 : Int32) <<< (v3 &&& 31))) (v3 + (1 : Int32))
def fR_childrenOf (w : x_W) (v0 : Nat) (v1 : Int32) : Option Int32 :=
  fR_childrenOf_6 w x_F v0 v1 (0 : Int32) (v1 + (1 : Int32))
set_option maxHeartbeats 4000000 in
set_option maxRecDepth 100000 in
theorem lR_childrenOf_6 (d : Nat) (hd : 2 ≤ d) {K : Option Value → x_W → Prop} {r : Int32} {w : x_W} (hK : K (some (.int r)) w) : ∀ (n : Nat) (v0 : Nat) (v1 : Int32) (v2 : Int32) (v3 : Int32), fR_childrenOf_6 w n v0 v1 v2 v3 = some r → x_G none yR_childrenOf cR_childrenOf 4 (some .int) (x_room d 0 0) (x_QM K 0 0) 6 [some (.ref v0), some (.int v1), some (.int v2), some (.int v3)] [] w 0 0 := by
  intro n
  induction n with
  | zero => intro v0 v1 v2 v3 h; rw [fR_childrenOf_6] at h; cases h
  | succ n ih =>
    intro v0 v1 v2 v3 h
    rw [fR_childrenOf_6] at h
    refine g_iload_n 7 (i := 3) dR_childrenOf_6 rfl rfl rfl ?_
    refine g_aload_n 8 (i := 0) dR_childrenOf_7 rfl rfl rfl ?_
    obtain ⟨t1, e1, h⟩ := x_bind h
    refine g_getfI 11 1 0 dR_childrenOf_8 rfl x_in1 tw_1_31 rfl (by decide) e1 ?_
    by_cases c2 : t1 ≤ v3
    · rw [if_pos c2] at h
      refine g_icmp_ge_t 39 dR_childrenOf_11 (by decide) c2 ?_
      refine g_iload_n 40 (i := 2) dR_childrenOf_39 rfl rfl rfl ?_
      obtain rfl := Option.some.inj h
      exact g_iret rfl dR_childrenOf_40 hK
    · rw [if_neg c2] at h
      refine g_icmp_ge_f 14 39 dR_childrenOf_11 (by decide) rfl c2 ?_
      refine g_aload_n 15 (i := 0) dR_childrenOf_14 rfl rfl rfl ?_
      obtain ⟨t3, e3, h⟩ := x_bind h
      refine g_getfR 18 1 1 dR_childrenOf_15 rfl x_in1 tw_1_34 rfl (by decide) e3 ?_
      refine g_iload_n 19 (i := 3) dR_childrenOf_18 rfl rfl rfl ?_
      obtain ⟨t4, e4, h⟩ := x_bind h
      refine g_iald 20 dR_childrenOf_19 rfl e4 ?_
      refine g_iload_n 21 (i := 1) dR_childrenOf_20 rfl rfl rfl ?_
      refine g_cSN 24 (some (.int (fA_has t4 v1))) w [.int t4, .int v1] [] dR_childrenOf_21 rfl (fun _ hK2 => mA_has (d - 1) (by omega) rfl hK2) kR_25 (x_rm (Nat.le_trans (by decide) hd) (by decide)) ⟨Nat.zero_le _, Nat.zero_le _⟩ (Nat.le_of_ble_eq_true rfl) rfl ?_
      by_cases c5 : (fA_has t4 v1) = (0 : Int32)
      · rw [if_pos c5] at h
        refine g_if_eq_t 33 dR_childrenOf_24 (by decide) c5 ?_
        refine g_iinc 36 [some (.ref v0), some (.int v1), some (.int v2), some (.int (v3 + (1 : Int32)))] dR_childrenOf_33 rfl rfl (x_inc (1 : Int32) (by decide)) rfl (by decide) ?_
        refine g_goto 6 dR_childrenOf_36 (by decide) ?_
        exact ih _ _ _ _ h
      · rw [if_neg c5] at h
        refine g_if_eq_f 27 33 dR_childrenOf_24 (by decide) rfl c5 ?_
        refine g_iload_n 28 (i := 2) dR_childrenOf_27 rfl rfl rfl ?_
        refine g_iconst 29 (1 : Int32) dR_childrenOf_28 rfl (by decide) ?_
        refine g_iload_n 30 (i := 3) dR_childrenOf_29 rfl rfl rfl ?_
        refine g_ishl 31 dR_childrenOf_30 rfl ?_
        refine g_ior 32 dR_childrenOf_31 rfl ?_
        refine g_istore_n 33 (i := 2) [some (.ref v0), some (.int v1), some (.int (v2 ||| ((1 : Int32) <<< (v3 &&& 31)))), some (.int v3)] dR_childrenOf_32 rfl rfl rfl (by decide) ?_
        refine g_iinc 36 [some (.ref v0), some (.int v1), some (.int (v2 ||| ((1 : Int32) <<< (v3 &&& 31)))), some (.int (v3 + (1 : Int32)))] dR_childrenOf_33 rfl rfl (x_inc (1 : Int32) (by decide)) rfl (by decide) ?_
        refine g_goto 6 dR_childrenOf_36 (by decide) ?_
        exact ih _ _ _ _ h
set_option maxHeartbeats 4000000 in
set_option maxRecDepth 100000 in
theorem mR_childrenOf (d : Nat) (hd : 2 ≤ d) {K : Option Value → x_W → Prop} {w : x_W} {v0 : Nat} {v1 : Int32} {r : Int32} (h : fR_childrenOf w v0 v1 = some r) (hK : K (some (.int r)) w) : x_M yR_childrenOf cR_childrenOf 4 (some .int) d 0 0 [.ref v0, .int v1] w K := by
  refine x_M.of [some (.ref v0), some (.int v1), none, none] (by decide) rfl (Nat.le_of_ble_eq_true rfl) ?_
  unfold fR_childrenOf at h
  refine g_iconst 1 (0 : Int32) dR_childrenOf_0 rfl (by decide) ?_
  refine g_istore_n 2 (i := 2) [some (.ref v0), some (.int v1), some (.int (0 : Int32)), none] dR_childrenOf_1 rfl rfl rfl (by decide) ?_
  refine g_iload_n 3 (i := 1) dR_childrenOf_2 rfl rfl rfl ?_
  refine g_iconst 4 (1 : Int32) dR_childrenOf_3 rfl (by decide) ?_
  refine g_iadd 5 dR_childrenOf_4 rfl ?_
  refine g_istore_n 6 (i := 3) [some (.ref v0), some (.int v1), some (.int (0 : Int32)), some (.int (v1 + (1 : Int32)))] dR_childrenOf_5 rfl rfl rfl (by decide) ?_
  exact lR_childrenOf_6 d hd hK x_F _ _ _ _ h
/-! ActSurgery$Arrows.besideOf(I)I: level P -/
theorem dR_besideOf_0 : decode cR_besideOf 0 = .ok (.aload_n 0, 1) := by decide +kernel
theorem dR_besideOf_1 : decode cR_besideOf 1 = .ok (.getfield 9, 3) := by decide +kernel
theorem dR_besideOf_4 : decode cR_besideOf 4 = .ok (.iload_n 1, 1) := by decide +kernel
theorem dR_besideOf_5 : decode cR_besideOf 5 = .ok (.iaload, 1) := by decide +kernel
theorem dR_besideOf_6 : decode cR_besideOf 6 = .ok (.aload_n 0, 1) := by decide +kernel
theorem dR_besideOf_7 : decode cR_besideOf 7 = .ok (.iload_n 1, 1) := by decide +kernel
theorem dR_besideOf_8 : decode cR_besideOf 8 = .ok (.invokevirtual 29, 3) := by decide +kernel
theorem dR_besideOf_11 : decode cR_besideOf 11 = .ok (.ior, 1) := by decide +kernel
theorem dR_besideOf_12 : decode cR_besideOf 12 = .ok (.ireturn, 1) := by decide +kernel
theorem tw_1_196 : (Jvm.Cond.instanceMethod ({ cls := "ActSurgery$Arrows", name := "childrenOf", desc := "(I)I" } : Jvm.MethodName)) ∈ x_GT := x_t1 196 rfl rfl
theorem tw_1_197 : (Jvm.Cond.selects "ActSurgery$Arrows" ({ cls := "ActSurgery$Arrows", name := "childrenOf", desc := "(I)I" } : Jvm.MethodName) ({ cls := "ActSurgery$Arrows", name := "childrenOf", desc := "(I)I" } : Jvm.MethodName)) ∈ x_GT := x_t1 197 rfl rfl
theorem tw_1_198 : (Jvm.Cond.code ({ cls := "ActSurgery$Arrows", name := "childrenOf", desc := "(I)I" } : Jvm.MethodName) prog_2_method_4_code (4 : Nat) (Option.some Jvm.ClassFile.FieldType.int)) ∈ x_GT := x_t1 198 rfl rfl
theorem tw_1_195 : (Jvm.Cond.methodLink "ActSurgery$Arrows" (29 : Nat) ({ cls := "ActSurgery$Arrows", name := "childrenOf", desc := "(I)I" } : Jvm.MethodName)) ∈ x_GT := x_t1 195 rfl rfl
theorem kR_29 : x_kV "ActSurgery$Arrows" 29 yR_childrenOf cR_childrenOf 4 (some .int) 1 1 := ⟨tw_1_196, tw_1_197, tw_1_198, tw_1_3, tw_1_195, (by decide +kernel), rfl⟩
def fR_besideOf (w : x_W) (v0 : Nat) (v1 : Int32) : Option Int32 :=
  (x_fr w v0 1 1).bind fun t1 =>
  (x_ai w t1 v1).bind fun t2 =>
  (fR_childrenOf w v0 v1).bind fun t3 =>
  some (t2 ||| t3)
set_option maxHeartbeats 4000000 in
set_option maxRecDepth 100000 in
theorem mR_besideOf (d : Nat) (hd : 3 ≤ d) {K : Option Value → x_W → Prop} {w : x_W} {v0 : Nat} {v1 : Int32} {r : Int32} (h : fR_besideOf w v0 v1 = some r) (hK : K (some (.int r)) w) : x_M yR_besideOf cR_besideOf 2 (some .int) d 0 0 [.ref v0, .int v1] w K := by
  refine x_M.of [some (.ref v0), some (.int v1)] (by decide) rfl (Nat.le_of_ble_eq_true rfl) ?_
  unfold fR_besideOf at h
  refine g_aload_n 1 (i := 0) dR_besideOf_0 rfl rfl rfl ?_
  obtain ⟨t1, e1, h⟩ := x_bind h
  refine g_getfR 4 1 1 dR_besideOf_1 rfl x_in1 tw_1_34 rfl (by decide) e1 ?_
  refine g_iload_n 5 (i := 1) dR_besideOf_4 rfl rfl rfl ?_
  obtain ⟨t2, e2, h⟩ := x_bind h
  refine g_iald 6 dR_besideOf_5 rfl e2 ?_
  refine g_aload_n 7 (i := 0) dR_besideOf_6 rfl rfl rfl ?_
  refine g_iload_n 8 (i := 1) dR_besideOf_7 rfl rfl rfl ?_
  obtain ⟨t3, e3, h⟩ := x_bind h
  refine g_cV 11 (some (.int t3)) w [.int v1] [.int t2] dR_besideOf_8 rfl (fun _ hK2 => mR_childrenOf (d - 1) (by omega) e3 hK2) (x_fr_ob e1) kR_29 (x_rm (Nat.le_trans (by decide) hd) (by decide)) ⟨Nat.zero_le _, Nat.zero_le _⟩ (Nat.le_of_ble_eq_true rfl) rfl ?_
  refine g_ior 12 dR_besideOf_11 rfl ?_
  obtain rfl := Option.some.inj h
  exact g_iret rfl dR_besideOf_12 hK
/-! ActSurgery$LikeGraphs.isLeastOrder(II)Z: level P -/
theorem dK_isLeastOrder_0 : decode cK_isLeastOrder 0 = .ok (.iload_n 2, 1) := by decide +kernel
theorem dK_isLeastOrder_1 : decode cK_isLeastOrder 1 = .ok (.iconst 1, 1) := by decide +kernel
theorem dK_isLeastOrder_2 : decode cK_isLeastOrder 2 = .ok (.isub, 1) := by decide +kernel
theorem dK_isLeastOrder_3 : decode cK_isLeastOrder 3 = .ok (.istore_n 3, 1) := by decide +kernel
theorem dK_isLeastOrder_4 : decode cK_isLeastOrder 4 = .ok (.iload_n 3, 1) := by decide +kernel
theorem dK_isLeastOrder_5 : decode cK_isLeastOrder 5 = .ok (.ifCond .lt 41, 3) := by decide +kernel
theorem dK_isLeastOrder_8 : decode cK_isLeastOrder 8 = .ok (.aload_n 0, 1) := by decide +kernel
theorem dK_isLeastOrder_9 : decode cK_isLeastOrder 9 = .ok (.getfield 9, 3) := by decide +kernel
theorem dK_isLeastOrder_12 : decode cK_isLeastOrder 12 = .ok (.iload_n 1, 1) := by decide +kernel
theorem dK_isLeastOrder_13 : decode cK_isLeastOrder 13 = .ok (.iaload, 1) := by decide +kernel
theorem dK_isLeastOrder_14 : decode cK_isLeastOrder 14 = .ok (.aload_n 0, 1) := by decide +kernel
theorem dK_isLeastOrder_15 : decode cK_isLeastOrder 15 = .ok (.getfield 15, 3) := by decide +kernel
theorem dK_isLeastOrder_18 : decode cK_isLeastOrder 18 = .ok (.iload_n 3, 1) := by decide +kernel
theorem dK_isLeastOrder_19 : decode cK_isLeastOrder 19 = .ok (.iaload, 1) := by decide +kernel
theorem dK_isLeastOrder_20 : decode cK_isLeastOrder 20 = .ok (.invokestatic 48, 3) := by decide +kernel
theorem dK_isLeastOrder_23 : decode cK_isLeastOrder 23 = .ok (.ifCond .eq 5, 3) := by decide +kernel
theorem dK_isLeastOrder_26 : decode cK_isLeastOrder 26 = .ok (.iconst 1, 1) := by decide +kernel
theorem dK_isLeastOrder_27 : decode cK_isLeastOrder 27 = .ok (.ireturn, 1) := by decide +kernel
theorem dK_isLeastOrder_28 : decode cK_isLeastOrder 28 = .ok (.aload_n 0, 1) := by decide +kernel
theorem dK_isLeastOrder_29 : decode cK_isLeastOrder 29 = .ok (.getfield 15, 3) := by decide +kernel
theorem dK_isLeastOrder_32 : decode cK_isLeastOrder 32 = .ok (.iload_n 3, 1) := by decide +kernel
theorem dK_isLeastOrder_33 : decode cK_isLeastOrder 33 = .ok (.iaload, 1) := by decide +kernel
theorem dK_isLeastOrder_34 : decode cK_isLeastOrder 34 = .ok (.iload_n 1, 1) := by decide +kernel
theorem dK_isLeastOrder_35 : decode cK_isLeastOrder 35 = .ok (.if_icmp .le 5, 3) := by decide +kernel
theorem dK_isLeastOrder_38 : decode cK_isLeastOrder 38 = .ok (.iconst 0, 1) := by decide +kernel
theorem dK_isLeastOrder_39 : decode cK_isLeastOrder 39 = .ok (.ireturn, 1) := by decide +kernel
theorem dK_isLeastOrder_40 : decode cK_isLeastOrder 40 = .ok (.iinc 3 (-1), 3) := by decide +kernel
theorem dK_isLeastOrder_43 : decode cK_isLeastOrder 43 = .ok (.goto (-39), 3) := by decide +kernel
theorem dK_isLeastOrder_46 : decode cK_isLeastOrder 46 = .ok (.iconst 1, 1) := by decide +kernel
theorem dK_isLeastOrder_47 : decode cK_isLeastOrder 47 = .ok (.ireturn, 1) := by decide +kernel
theorem kK_48 : x_kSN "ActSurgery$LikeGraphs" 48 yA_has cA_has 2 (some .boolean) 2 "ActSurgery" := ⟨tw_1_168, tw_1_169, tw_1_1, (List.mem_of_getElem? (i := 5) rfl), (by decide +kernel)⟩
def fK_isLeastOrder_4 (w : x_W) : Nat → Nat → Int32 → Int32 → Option Int32
  | 0, _, _, _ => none
  | n + 1, v0, v1, v3 =>
    if v3 < (0 : Int32) then
      some (1 : Int32)
    else
      (x_fr w v0 4 0).bind fun t2 =>
      (x_ai w t2 v1).bind fun t3 =>
      (x_fr w v0 4 1).bind fun t4 =>
      (x_ai w t4 v3).bind fun t5 =>
      if (fA_has t3 t5) = (0 : Int32) then
        if t5 ≤ v1 then
          fK_isLeastOrder_4 w n v0 v1 (v3 + (-1 : Int32))
        else
          some (0 : Int32)
      else
        some (1 : Int32)
def fK_isLeastOrder (w : x_W) (v0 : Nat) (v1 : Int32) (v2 : Int32) : Option Int32 :=
  fK_isLeastOrder_4 w x_F v0 v1 (v2 - (1 : Int32))
set_option maxHeartbeats 4000000 in
set_option maxRecDepth 100000 in
theorem lK_isLeastOrder_4 (d : Nat) (hd : 2 ≤ d) {K : Option Value → x_W → Prop} {r : Int32} {w : x_W} (hK : K (some (.int r)) w) : ∀ (n : Nat) (v0 : Nat) (v1 : Int32) (v3 : Int32), fK_isLeastOrder_4 w n v0 v1 v3 = some r → x_G none yK_isLeastOrder cK_isLeastOrder 4 (some .boolean) (x_room d 0 0) (x_QM K 0 0) 4 [some (.ref v0), some (.int v1), none, some (.int v3)] [] w 0 0 := by
  intro n
  induction n with
  | zero => intro v0 v1 v3 h; rw [fK_isLeastOrder_4] at h; cases h
  | succ n ih =>
    intro v0 v1 v3 h
    rw [fK_isLeastOrder_4] at h
    refine g_iload_n 5 (i := 3) dK_isLeastOrder_4 rfl rfl rfl ?_
    by_cases c1 : v3 < (0 : Int32)
    · rw [if_pos c1] at h
      refine g_if_lt_t 46 dK_isLeastOrder_5 (by decide) c1 ?_
      refine g_iconst 47 (1 : Int32) dK_isLeastOrder_46 rfl (by decide) ?_
      obtain rfl := Option.some.inj h
      exact g_zret rfl (by decide) dK_isLeastOrder_47 hK
    · rw [if_neg c1] at h
      refine g_if_lt_f 8 46 dK_isLeastOrder_5 (by decide) rfl c1 ?_
      refine g_aload_n 9 (i := 0) dK_isLeastOrder_8 rfl rfl rfl ?_
      obtain ⟨t2, e2, h⟩ := x_bind h
      refine g_getfR 12 4 0 dK_isLeastOrder_9 rfl x_in4 tw_1_76 rfl (by decide) e2 ?_
      refine g_iload_n 13 (i := 1) dK_isLeastOrder_12 rfl rfl rfl ?_
      obtain ⟨t3, e3, h⟩ := x_bind h
      refine g_iald 14 dK_isLeastOrder_13 rfl e3 ?_
      refine g_aload_n 15 (i := 0) dK_isLeastOrder_14 rfl rfl rfl ?_
      obtain ⟨t4, e4, h⟩ := x_bind h
      refine g_getfR 18 4 1 dK_isLeastOrder_15 rfl x_in4 tw_1_77 rfl (by decide) e4 ?_
      refine g_iload_n 19 (i := 3) dK_isLeastOrder_18 rfl rfl rfl ?_
      obtain ⟨t5, e5, h⟩ := x_bind h
      refine g_iald 20 dK_isLeastOrder_19 rfl e5 ?_
      refine g_cSN 23 (some (.int (fA_has t3 t5))) w [.int t3, .int t5] [] dK_isLeastOrder_20 rfl (fun _ hK2 => mA_has (d - 1) (by omega) rfl hK2) kK_48 (x_rm (Nat.le_trans (by decide) hd) (by decide)) ⟨Nat.zero_le _, Nat.zero_le _⟩ (Nat.le_of_ble_eq_true rfl) rfl ?_
      by_cases c6 : (fA_has t3 t5) = (0 : Int32)
      · rw [if_pos c6] at h
        refine g_if_eq_t 28 dK_isLeastOrder_23 (by decide) c6 ?_
        refine g_aload_n 29 (i := 0) dK_isLeastOrder_28 rfl rfl rfl ?_
        refine g_getfR 32 4 1 dK_isLeastOrder_29 rfl x_in4 tw_1_77 rfl (by decide) e4 ?_
        refine g_iload_n 33 (i := 3) dK_isLeastOrder_32 rfl rfl rfl ?_
        refine g_iald 34 dK_isLeastOrder_33 rfl e5 ?_
        refine g_iload_n 35 (i := 1) dK_isLeastOrder_34 rfl rfl rfl ?_
        by_cases c7 : t5 ≤ v1
        · rw [if_pos c7] at h
          refine g_icmp_le_t 40 dK_isLeastOrder_35 (by decide) c7 ?_
          refine g_iinc 43 [some (.ref v0), some (.int v1), none, some (.int (v3 + (-1 : Int32)))] dK_isLeastOrder_40 rfl rfl (x_inc (-1 : Int32) (by decide)) rfl (by decide) ?_
          refine g_goto 4 dK_isLeastOrder_43 (by decide) ?_
          exact ih _ _ _ h
        · rw [if_neg c7] at h
          refine g_icmp_le_f 38 40 dK_isLeastOrder_35 (by decide) rfl c7 ?_
          refine g_iconst 39 (0 : Int32) dK_isLeastOrder_38 rfl (by decide) ?_
          obtain rfl := Option.some.inj h
          exact g_zret rfl (by decide) dK_isLeastOrder_39 hK
      · rw [if_neg c6] at h
        refine g_if_eq_f 26 28 dK_isLeastOrder_23 (by decide) rfl c6 ?_
        refine g_iconst 27 (1 : Int32) dK_isLeastOrder_26 rfl (by decide) ?_
        obtain rfl := Option.some.inj h
        exact g_zret rfl (by decide) dK_isLeastOrder_27 hK
set_option maxHeartbeats 4000000 in
set_option maxRecDepth 100000 in
theorem mK_isLeastOrder (d : Nat) (hd : 2 ≤ d) {K : Option Value → x_W → Prop} {w : x_W} {v0 : Nat} {v1 : Int32} {v2 : Int32} {r : Int32} (h : fK_isLeastOrder w v0 v1 v2 = some r) (hK : K (some (.int r)) w) : x_M yK_isLeastOrder cK_isLeastOrder 4 (some .boolean) d 0 0 [.ref v0, .int v1, .int v2] w K := by
  refine x_M.of [some (.ref v0), some (.int v1), some (.int v2), none] (by decide) rfl (Nat.le_of_ble_eq_true rfl) ?_
  unfold fK_isLeastOrder at h
  refine g_iload_n 1 (i := 2) dK_isLeastOrder_0 rfl rfl rfl ?_
  refine g_iconst 2 (1 : Int32) dK_isLeastOrder_1 rfl (by decide) ?_
  refine g_isub 3 dK_isLeastOrder_2 rfl ?_
  refine g_istore_n 4 (i := 3) [some (.ref v0), some (.int v1), some (.int v2), some (.int (v2 - (1 : Int32)))] dK_isLeastOrder_3 rfl rfl rfl (by decide) ?_
  refine g_less [some (.ref v0), some (.int v1), none, some (.int (v2 - (1 : Int32)))] ⟨rfl, rfl, rfl, trivial⟩ ?_
  exact lK_isLeastOrder_4 d hd hK x_F _ _ _ h
/-! ActSurgery$LikeGraphs.unjoined(II)I: level P -/
theorem dK_unjoined_0 : decode cK_unjoined 0 = .ok (.iload_n 1, 1) := by decide +kernel
theorem dK_unjoined_1 : decode cK_unjoined 1 = .ok (.iload_n 2, 1) := by decide +kernel
theorem dK_unjoined_2 : decode cK_unjoined 2 = .ok (.invokestatic 48, 3) := by decide +kernel
theorem dK_unjoined_5 : decode cK_unjoined 5 = .ok (.ifCond .eq 22, 3) := by decide +kernel
theorem dK_unjoined_8 : decode cK_unjoined 8 = .ok (.iload_n 1, 1) := by decide +kernel
theorem dK_unjoined_9 : decode cK_unjoined 9 = .ok (.aload_n 0, 1) := by decide +kernel
theorem dK_unjoined_10 : decode cK_unjoined 10 = .ok (.getfield 9, 3) := by decide +kernel
theorem dK_unjoined_13 : decode cK_unjoined 13 = .ok (.iload_n 2, 1) := by decide +kernel
theorem dK_unjoined_14 : decode cK_unjoined 14 = .ok (.iaload, 1) := by decide +kernel
theorem dK_unjoined_15 : decode cK_unjoined 15 = .ok (.iconst (-1), 1) := by decide +kernel
theorem dK_unjoined_16 : decode cK_unjoined 16 = .ok (.ixor, 1) := by decide +kernel
theorem dK_unjoined_17 : decode cK_unjoined 17 = .ok (.iand, 1) := by decide +kernel
theorem dK_unjoined_18 : decode cK_unjoined 18 = .ok (.iconst 1, 1) := by decide +kernel
theorem dK_unjoined_19 : decode cK_unjoined 19 = .ok (.iload_n 2, 1) := by decide +kernel
theorem dK_unjoined_20 : decode cK_unjoined 20 = .ok (.ishl, 1) := by decide +kernel
theorem dK_unjoined_21 : decode cK_unjoined 21 = .ok (.iconst (-1), 1) := by decide +kernel
theorem dK_unjoined_22 : decode cK_unjoined 22 = .ok (.ixor, 1) := by decide +kernel
theorem dK_unjoined_23 : decode cK_unjoined 23 = .ok (.iand, 1) := by decide +kernel
theorem dK_unjoined_24 : decode cK_unjoined 24 = .ok (.goto 4, 3) := by decide +kernel
theorem dK_unjoined_27 : decode cK_unjoined 27 = .ok (.iconst 0, 1) := by decide +kernel
theorem dK_unjoined_28 : decode cK_unjoined 28 = .ok (.ireturn, 1) := by decide +kernel
def fK_unjoined (w : x_W) (v0 : Nat) (v1 : Int32) (v2 : Int32) : Option Int32 :=
  if (fA_has v1 v2) = (0 : Int32) then
    some (0 : Int32)
  else
    (x_fr w v0 4 0).bind fun t2 =>
    (x_ai w t2 v2).bind fun t3 =>
    some ((v1 &&& (t3 ^^^ (-1 : Int32))) &&& (((1 : Int32) <<< (v2 &&& 31)) ^^^ (-1 : Int32)))
set_option maxHeartbeats 4000000 in
set_option maxRecDepth 100000 in
theorem mK_unjoined (d : Nat) (hd : 2 ≤ d) {K : Option Value → x_W → Prop} {w : x_W} {v0 : Nat} {v1 : Int32} {v2 : Int32} {r : Int32} (h : fK_unjoined w v0 v1 v2 = some r) (hK : K (some (.int r)) w) : x_M yK_unjoined cK_unjoined 3 (some .int) d 0 0 [.ref v0, .int v1, .int v2] w K := by
  refine x_M.of [some (.ref v0), some (.int v1), some (.int v2)] (by decide) rfl (Nat.le_of_ble_eq_true rfl) ?_
  unfold fK_unjoined at h
  refine g_iload_n 1 (i := 1) dK_unjoined_0 rfl rfl rfl ?_
  refine g_iload_n 2 (i := 2) dK_unjoined_1 rfl rfl rfl ?_
  refine g_cSN 5 (some (.int (fA_has v1 v2))) w [.int v1, .int v2] [] dK_unjoined_2 rfl (fun _ hK2 => mA_has (d - 1) (by omega) rfl hK2) kK_48 (x_rm (Nat.le_trans (by decide) hd) (by decide)) ⟨Nat.zero_le _, Nat.zero_le _⟩ (Nat.le_of_ble_eq_true rfl) rfl ?_
  by_cases c1 : (fA_has v1 v2) = (0 : Int32)
  · rw [if_pos c1] at h
    refine g_if_eq_t 27 dK_unjoined_5 (by decide) c1 ?_
    refine g_iconst 28 (0 : Int32) dK_unjoined_27 rfl (by decide) ?_
    obtain rfl := Option.some.inj h
    exact g_iret rfl dK_unjoined_28 hK
  · rw [if_neg c1] at h
    refine g_if_eq_f 8 27 dK_unjoined_5 (by decide) rfl c1 ?_
    refine g_iload_n 9 (i := 1) dK_unjoined_8 rfl rfl rfl ?_
    refine g_aload_n 10 (i := 0) dK_unjoined_9 rfl rfl rfl ?_
    obtain ⟨t2, e2, h⟩ := x_bind h
    refine g_getfR 13 4 0 dK_unjoined_10 rfl x_in4 tw_1_76 rfl (by decide) e2 ?_
    refine g_iload_n 14 (i := 2) dK_unjoined_13 rfl rfl rfl ?_
    obtain ⟨t3, e3, h⟩ := x_bind h
    refine g_iald 15 dK_unjoined_14 rfl e3 ?_
    refine g_iconst 16 (-1 : Int32) dK_unjoined_15 rfl (by decide) ?_
    refine g_ixor 17 dK_unjoined_16 rfl ?_
    refine g_iand 18 dK_unjoined_17 rfl ?_
    refine g_iconst 19 (1 : Int32) dK_unjoined_18 rfl (by decide) ?_
    refine g_iload_n 20 (i := 2) dK_unjoined_19 rfl rfl rfl ?_
    refine g_ishl 21 dK_unjoined_20 rfl ?_
    refine g_iconst 22 (-1 : Int32) dK_unjoined_21 rfl (by decide) ?_
    refine g_ixor 23 dK_unjoined_22 rfl ?_
    refine g_iand 24 dK_unjoined_23 rfl ?_
    refine g_goto 28 dK_unjoined_24 (by decide) ?_
    obtain rfl := Option.some.inj h
    exact g_iret rfl dK_unjoined_28 hK
/-! ActSurgery$LikeGraphs.meetsAlike(II)Z: level P -/
theorem dK_meetsAlike_0 : decode cK_meetsAlike 0 = .ok (.iconst 0, 1) := by decide +kernel
theorem dK_meetsAlike_1 : decode cK_meetsAlike 1 = .ok (.istore_n 3, 1) := by decide +kernel
theorem dK_meetsAlike_2 : decode cK_meetsAlike 2 = .ok (.iload_n 3, 1) := by decide +kernel
theorem dK_meetsAlike_3 : decode cK_meetsAlike 3 = .ok (.aload_n 0, 1) := by decide +kernel
theorem dK_meetsAlike_4 : decode cK_meetsAlike 4 = .ok (.getfield 30, 3) := by decide +kernel
theorem dK_meetsAlike_7 : decode cK_meetsAlike 7 = .ok (.if_icmp .ge 31, 3) := by decide +kernel
theorem dK_meetsAlike_10 : decode cK_meetsAlike 10 = .ok (.aload_n 0, 1) := by decide +kernel
theorem dK_meetsAlike_11 : decode cK_meetsAlike 11 = .ok (.aload_n 0, 1) := by decide +kernel
theorem dK_meetsAlike_12 : decode cK_meetsAlike 12 = .ok (.getfield 18, 3) := by decide +kernel
theorem dK_meetsAlike_15 : decode cK_meetsAlike 15 = .ok (.iload_n 1, 1) := by decide +kernel
theorem dK_meetsAlike_16 : decode cK_meetsAlike 16 = .ok (.iaload, 1) := by decide +kernel
theorem dK_meetsAlike_17 : decode cK_meetsAlike 17 = .ok (.iload_n 3, 1) := by decide +kernel
theorem dK_meetsAlike_18 : decode cK_meetsAlike 18 = .ok (.invokevirtual 58, 3) := by decide +kernel
theorem dK_meetsAlike_21 : decode cK_meetsAlike 21 = .ok (.aload_n 0, 1) := by decide +kernel
theorem dK_meetsAlike_22 : decode cK_meetsAlike 22 = .ok (.iload_n 2, 1) := by decide +kernel
theorem dK_meetsAlike_23 : decode cK_meetsAlike 23 = .ok (.iload_n 3, 1) := by decide +kernel
theorem dK_meetsAlike_24 : decode cK_meetsAlike 24 = .ok (.invokevirtual 58, 3) := by decide +kernel
theorem dK_meetsAlike_27 : decode cK_meetsAlike 27 = .ok (.if_icmp .eq 5, 3) := by decide +kernel
theorem dK_meetsAlike_30 : decode cK_meetsAlike 30 = .ok (.iconst 0, 1) := by decide +kernel
theorem dK_meetsAlike_31 : decode cK_meetsAlike 31 = .ok (.ireturn, 1) := by decide +kernel
theorem dK_meetsAlike_32 : decode cK_meetsAlike 32 = .ok (.iinc 3 1, 3) := by decide +kernel
theorem dK_meetsAlike_35 : decode cK_meetsAlike 35 = .ok (.goto (-33), 3) := by decide +kernel
theorem dK_meetsAlike_38 : decode cK_meetsAlike 38 = .ok (.iconst 1, 1) := by decide +kernel
theorem dK_meetsAlike_39 : decode cK_meetsAlike 39 = .ok (.ireturn, 1) := by decide +kernel
theorem tw_1_80 : (Jvm.Cond.fieldLink "ActSurgery$LikeGraphs" (30 : Nat) "ActSurgery$LikeGraphs" "size" "I") ∈ x_GT := x_t1 80 rfl rfl
theorem tw_1_219 : (Jvm.Cond.instanceMethod ({ cls := "ActSurgery$LikeGraphs", name := "unjoined", desc := "(II)I" } : Jvm.MethodName)) ∈ x_GT := x_t1 219 rfl rfl
theorem tws_5 : (Jvm.Cond.selects "ActSurgery$LikeGraphs" ({ cls := "ActSurgery$LikeGraphs", name := "unjoined", desc := "(II)I" } : Jvm.MethodName) ({ cls := "ActSurgery$LikeGraphs", name := "unjoined", desc := "(II)I" } : Jvm.MethodName)) ∈ x_GT := x_ts 5 rfl rfl
theorem tw_1_220 : (Jvm.Cond.code ({ cls := "ActSurgery$LikeGraphs", name := "unjoined", desc := "(II)I" } : Jvm.MethodName) prog_4_method_7_code (3 : Nat) (Option.some Jvm.ClassFile.FieldType.int)) ∈ x_GT := x_t1 220 rfl rfl
theorem tw_1_217 : (Jvm.Cond.methodLink "ActSurgery$LikeGraphs" (58 : Nat) ({ cls := "ActSurgery$LikeGraphs", name := "unjoined", desc := "(II)I" } : Jvm.MethodName)) ∈ x_GT := x_t1 217 rfl rfl
theorem kK_58 : x_kV "ActSurgery$LikeGraphs" 58 yK_unjoined cK_unjoined 3 (some .int) 2 4 := ⟨tw_1_219, tws_5, tw_1_220, tw_1_4, tw_1_217, (by decide +kernel), rfl⟩
def fK_meetsAlike_2 (w : x_W) : Nat → Nat → Int32 → Int32 → Int32 → Option Int32
  | 0, _, _, _, _ => none
  | n + 1, v0, v1, v2, v3 =>
    (x_fi w v0 4 4).bind fun t1 =>
    if t1 ≤ v3 then
      some (1 : Int32)
    else
      (x_fr w v0 4 2).bind fun t3 =>
      (x_ai w t3 v1).bind fun t4 =>
      (fK_unjoined w v0 t4 v3).bind fun t5 =>
      (fK_unjoined w v0 v2 v3).bind fun t6 =>
      if t5 = t6 then
        fK_meetsAlike_2 w n v0 v1 v2 (v3 + (1 : Int32))
      else
        some (0 : Int32)
def fK_meetsAlike (w : x_W) (v0 : Nat) (v1 : Int32) (v2 : Int32) : Option Int32 :=
  fK_meetsAlike_2 w x_F v0 v1 v2 (0 : Int32)
set_option maxHeartbeats 4000000 in
set_option maxRecDepth 100000 in
theorem lK_meetsAlike_2 (d : Nat) (hd : 3 ≤ d) {K : Option Value → x_W → Prop} {r : Int32} {w : x_W} (hK : K (some (.int r)) w) : ∀ (n : Nat) (v0 : Nat) (v1 : Int32) (v2 : Int32) (v3 : Int32), fK_meetsAlike_2 w n v0 v1 v2 v3 = some r → x_G none yK_meetsAlike cK_meetsAlike 4 (some .boolean) (x_room d 0 0) (x_QM K 0 0) 2 [some (.ref v0), some (.int v1), some (.int v2), some (.int v3)] [] w 0 0 := by
  intro n
  induction n with
  | zero => intro v0 v1 v2 v3 h; rw [fK_meetsAlike_2] at h; cases h
  | succ n ih =>
    intro v0 v1 v2 v3 h
    rw [fK_meetsAlike_2] at h
    refine g_iload_n 3 (i := 3) dK_meetsAlike_2 rfl rfl rfl ?_
    refine g_aload_n 4 (i := 0) dK_meetsAlike_3 rfl rfl rfl ?_
    obtain ⟨t1, e1, h⟩ := x_bind h
    refine g_getfI 7 4 4 dK_meetsAlike_4 rfl x_in4 tw_1_80 rfl (by decide) e1 ?_
    by_cases c2 : t1 ≤ v3
    · rw [if_pos c2] at h
      refine g_icmp_ge_t 38 dK_meetsAlike_7 (by decide) c2 ?_
      refine g_iconst 39 (1 : Int32) dK_meetsAlike_38 rfl (by decide) ?_
      obtain rfl := Option.some.inj h
      exact g_zret rfl (by decide) dK_meetsAlike_39 hK
    · rw [if_neg c2] at h
      refine g_icmp_ge_f 10 38 dK_meetsAlike_7 (by decide) rfl c2 ?_
      refine g_aload_n 11 (i := 0) dK_meetsAlike_10 rfl rfl rfl ?_
      refine g_aload_n 12 (i := 0) dK_meetsAlike_11 rfl rfl rfl ?_
      obtain ⟨t3, e3, h⟩ := x_bind h
      refine g_getfR 15 4 2 dK_meetsAlike_12 rfl x_in4 tw_1_78 rfl (by decide) e3 ?_
      refine g_iload_n 16 (i := 1) dK_meetsAlike_15 rfl rfl rfl ?_
      obtain ⟨t4, e4, h⟩ := x_bind h
      refine g_iald 17 dK_meetsAlike_16 rfl e4 ?_
      refine g_iload_n 18 (i := 3) dK_meetsAlike_17 rfl rfl rfl ?_
      obtain ⟨t5, e5, h⟩ := x_bind h
      refine g_cV 21 (some (.int t5)) w [.int t4, .int v3] [] dK_meetsAlike_18 rfl (fun _ hK2 => mK_unjoined (d - 1) (by omega) e5 hK2) (x_fr_ob e3) kK_58 (x_rm (Nat.le_trans (by decide) hd) (by decide)) ⟨Nat.zero_le _, Nat.zero_le _⟩ (Nat.le_of_ble_eq_true rfl) rfl ?_
      refine g_aload_n 22 (i := 0) dK_meetsAlike_21 rfl rfl rfl ?_
      refine g_iload_n 23 (i := 2) dK_meetsAlike_22 rfl rfl rfl ?_
      refine g_iload_n 24 (i := 3) dK_meetsAlike_23 rfl rfl rfl ?_
      obtain ⟨t6, e6, h⟩ := x_bind h
      refine g_cV 27 (some (.int t6)) w [.int v2, .int v3] [.int t5] dK_meetsAlike_24 rfl (fun _ hK2 => mK_unjoined (d - 1) (by omega) e6 hK2) (x_fr_ob e3) kK_58 (x_rm (Nat.le_trans (by decide) hd) (by decide)) ⟨Nat.zero_le _, Nat.zero_le _⟩ (Nat.le_of_ble_eq_true rfl) rfl ?_
      by_cases c7 : t5 = t6
      · rw [if_pos c7] at h
        refine g_icmp_eq_t 32 dK_meetsAlike_27 (by decide) c7 ?_
        refine g_iinc 35 [some (.ref v0), some (.int v1), some (.int v2), some (.int (v3 + (1 : Int32)))] dK_meetsAlike_32 rfl rfl (x_inc (1 : Int32) (by decide)) rfl (by decide) ?_
        refine g_goto 2 dK_meetsAlike_35 (by decide) ?_
        exact ih _ _ _ _ h
      · rw [if_neg c7] at h
        refine g_icmp_eq_f 30 32 dK_meetsAlike_27 (by decide) rfl c7 ?_
        refine g_iconst 31 (0 : Int32) dK_meetsAlike_30 rfl (by decide) ?_
        obtain rfl := Option.some.inj h
        exact g_zret rfl (by decide) dK_meetsAlike_31 hK
set_option maxHeartbeats 4000000 in
set_option maxRecDepth 100000 in
theorem mK_meetsAlike (d : Nat) (hd : 3 ≤ d) {K : Option Value → x_W → Prop} {w : x_W} {v0 : Nat} {v1 : Int32} {v2 : Int32} {r : Int32} (h : fK_meetsAlike w v0 v1 v2 = some r) (hK : K (some (.int r)) w) : x_M yK_meetsAlike cK_meetsAlike 4 (some .boolean) d 0 0 [.ref v0, .int v1, .int v2] w K := by
  refine x_M.of [some (.ref v0), some (.int v1), some (.int v2), none] (by decide) rfl (Nat.le_of_ble_eq_true rfl) ?_
  unfold fK_meetsAlike at h
  refine g_iconst 1 (0 : Int32) dK_meetsAlike_0 rfl (by decide) ?_
  refine g_istore_n 2 (i := 3) [some (.ref v0), some (.int v1), some (.int v2), some (.int (0 : Int32))] dK_meetsAlike_1 rfl rfl rfl (by decide) ?_
  exact lK_meetsAlike_2 d hd hK x_F _ _ _ _ h
/-! ActSurgery$LikeGraphs.takeUp()V: level X -/
theorem dK_takeUp_0 : decode cK_takeUp 0 = .ok (.aload_n 0, 1) := by decide +kernel
theorem dK_takeUp_1 : decode cK_takeUp 1 = .ok (.dup, 1) := by decide +kernel
theorem dK_takeUp_2 : decode cK_takeUp 2 = .ok (.getfield 31, 3) := by decide +kernel
theorem dK_takeUp_5 : decode cK_takeUp 5 = .ok (.iconst 1, 1) := by decide +kernel
theorem dK_takeUp_6 : decode cK_takeUp 6 = .ok (.iadd, 1) := by decide +kernel
theorem dK_takeUp_7 : decode cK_takeUp 7 = .ok (.putfield 31, 3) := by decide +kernel
theorem dK_takeUp_10 : decode cK_takeUp 10 = .ok (.iconst 0, 1) := by decide +kernel
theorem dK_takeUp_11 : decode cK_takeUp 11 = .ok (.istore_n 1, 1) := by decide +kernel
theorem dK_takeUp_12 : decode cK_takeUp 12 = .ok (.iload_n 1, 1) := by decide +kernel
theorem dK_takeUp_13 : decode cK_takeUp 13 = .ok (.aload_n 0, 1) := by decide +kernel
theorem dK_takeUp_14 : decode cK_takeUp 14 = .ok (.getfield 30, 3) := by decide +kernel
theorem dK_takeUp_17 : decode cK_takeUp 17 = .ok (.if_icmp .ge 24, 3) := by decide +kernel
theorem dK_takeUp_20 : decode cK_takeUp 20 = .ok (.aload_n 0, 1) := by decide +kernel
theorem dK_takeUp_21 : decode cK_takeUp 21 = .ok (.getfield 21, 3) := by decide +kernel
theorem dK_takeUp_24 : decode cK_takeUp 24 = .ok (.iload_n 1, 1) := by decide +kernel
theorem dK_takeUp_25 : decode cK_takeUp 25 = .ok (.dup2, 1) := by decide +kernel
theorem dK_takeUp_26 : decode cK_takeUp 26 = .ok (.iaload, 1) := by decide +kernel
theorem dK_takeUp_27 : decode cK_takeUp 27 = .ok (.aload_n 0, 1) := by decide +kernel
theorem dK_takeUp_28 : decode cK_takeUp 28 = .ok (.getfield 18, 3) := by decide +kernel
theorem dK_takeUp_31 : decode cK_takeUp 31 = .ok (.iload_n 1, 1) := by decide +kernel
theorem dK_takeUp_32 : decode cK_takeUp 32 = .ok (.iaload, 1) := by decide +kernel
theorem dK_takeUp_33 : decode cK_takeUp 33 = .ok (.iand, 1) := by decide +kernel
theorem dK_takeUp_34 : decode cK_takeUp 34 = .ok (.iastore, 1) := by decide +kernel
theorem dK_takeUp_35 : decode cK_takeUp 35 = .ok (.iinc 1 1, 3) := by decide +kernel
theorem dK_takeUp_38 : decode cK_takeUp 38 = .ok (.goto (-26), 3) := by decide +kernel
theorem dK_takeUp_41 : decode cK_takeUp 41 = .ok (.return_, 1) := by decide +kernel
theorem tw_1_81 : (Jvm.Cond.fieldLink "ActSurgery$LikeGraphs" (31 : Nat) "ActSurgery$LikeGraphs" "found" "I") ∈ x_GT := x_t1 81 rfl rfl
def fK_takeUp_12  : Nat → x_W → Nat → Int32 → Option x_W
  | 0, _, _, _ => none
  | n + 1, w, v0, v1 =>
    (x_fi w v0 4 4).bind fun t1 =>
    if t1 ≤ v1 then
      some w
    else
      (x_fr w v0 4 3).bind fun t3 =>
      (x_ai w t3 v1).bind fun t4 =>
      (x_fr w v0 4 2).bind fun t5 =>
      (x_ai w t5 v1).bind fun t6 =>
      (x_pa w t3 v1 (t4 &&& t6)).bind fun w7 =>
      fK_takeUp_12 n w7 v0 (v1 + (1 : Int32))
def fK_takeUp  (w : x_W) (v0 : Nat) : Option x_W :=
  (x_fi w v0 4 5).bind fun t1 =>
  (x_pf w v0 4 5 (.int (t1 + (1 : Int32)))).bind fun w2 =>
  fK_takeUp_12 x_F w2 v0 (0 : Int32)
set_option maxHeartbeats 4000000 in
set_option maxRecDepth 100000 in
theorem lK_takeUp_12 (d : Nat) (hd : 1 ≤ d) {K : Option Value → x_W → Prop} {r : x_W} (hK : K none r) : ∀ (n : Nat) (w : x_W) (v0 : Nat) (v1 : Int32), fK_takeUp_12 n w v0 v1 = some r → x_G none yK_takeUp cK_takeUp 2 none (x_room d 0 0) (x_QM K 0 0) 12 [some (.ref v0), some (.int v1)] [] w 0 0 := by
  intro n
  induction n with
  | zero => intro w v0 v1 h; rw [fK_takeUp_12] at h; cases h
  | succ n ih =>
    intro w v0 v1 h
    rw [fK_takeUp_12] at h
    refine g_iload_n 13 (i := 1) dK_takeUp_12 rfl rfl rfl ?_
    refine g_aload_n 14 (i := 0) dK_takeUp_13 rfl rfl rfl ?_
    obtain ⟨t1, e1, h⟩ := x_bind h
    refine g_getfI 17 4 4 dK_takeUp_14 rfl x_in4 tw_1_80 rfl (by decide) e1 ?_
    by_cases c2 : t1 ≤ v1
    · rw [if_pos c2] at h
      refine g_icmp_ge_t 41 dK_takeUp_17 (by decide) c2 ?_
      obtain rfl := Option.some.inj h
      exact g_vret rfl dK_takeUp_41 hK
    · rw [if_neg c2] at h
      refine g_icmp_ge_f 20 41 dK_takeUp_17 (by decide) rfl c2 ?_
      refine g_aload_n 21 (i := 0) dK_takeUp_20 rfl rfl rfl ?_
      obtain ⟨t3, e3, h⟩ := x_bind h
      refine g_getfR 24 4 3 dK_takeUp_21 rfl x_in4 tw_1_79 rfl (by decide) e3 ?_
      refine g_iload_n 25 (i := 1) dK_takeUp_24 rfl rfl rfl ?_
      refine g_dup2 26 dK_takeUp_25 rfl rfl rfl ?_
      obtain ⟨t4, e4, h⟩ := x_bind h
      refine g_iald 27 dK_takeUp_26 rfl e4 ?_
      refine g_aload_n 28 (i := 0) dK_takeUp_27 rfl rfl rfl ?_
      obtain ⟨t5, e5, h⟩ := x_bind h
      refine g_getfR 31 4 2 dK_takeUp_28 rfl x_in4 tw_1_78 rfl (by decide) e5 ?_
      refine g_iload_n 32 (i := 1) dK_takeUp_31 rfl rfl rfl ?_
      obtain ⟨t6, e6, h⟩ := x_bind h
      refine g_iald 33 dK_takeUp_32 rfl e6 ?_
      refine g_iand 34 dK_takeUp_33 rfl ?_
      obtain ⟨w7, e7, h⟩ := x_bind h
      refine g_iast 35 dK_takeUp_34 rfl e7 ?_
      refine g_iinc 38 [some (.ref v0), some (.int (v1 + (1 : Int32)))] dK_takeUp_35 rfl rfl (x_inc (1 : Int32) (by decide)) rfl (by decide) ?_
      refine g_goto 12 dK_takeUp_38 (by decide) ?_
      exact ih _ _ _ h
set_option maxHeartbeats 4000000 in
set_option maxRecDepth 100000 in
theorem mK_takeUp (d : Nat) (hd : 1 ≤ d) {K : Option Value → x_W → Prop} {w : x_W} {v0 : Nat} {r : x_W} (h : fK_takeUp w v0 = some r) (hK : K none r) : x_M yK_takeUp cK_takeUp 2 none d 0 0 [.ref v0] w K := by
  refine x_M.of [some (.ref v0), none] (by decide) rfl (Nat.le_of_ble_eq_true rfl) ?_
  unfold fK_takeUp at h
  refine g_aload_n 1 (i := 0) dK_takeUp_0 rfl rfl rfl ?_
  refine g_dup 2 dK_takeUp_1 rfl rfl ?_
  obtain ⟨t1, e1, h⟩ := x_bind h
  refine g_getfI 5 4 5 dK_takeUp_2 rfl x_in4 tw_1_81 rfl (by decide) e1 ?_
  refine g_iconst 6 (1 : Int32) dK_takeUp_5 rfl (by decide) ?_
  refine g_iadd 7 dK_takeUp_6 rfl ?_
  obtain ⟨w2, e2, h⟩ := x_bind h
  refine g_putf 10 4 5 xy4 xy4_ok xn4 dK_takeUp_7 rfl x_in4 tw_1_81 rfl (by decide) rfl (fun _ _ => ⟨rfl, rfl⟩) e2 ?_
  refine g_iconst 11 (0 : Int32) dK_takeUp_10 rfl (by decide) ?_
  refine g_istore_n 12 (i := 1) [some (.ref v0), some (.int (0 : Int32))] dK_takeUp_11 rfl rfl rfl (by decide) ?_
  exact lK_takeUp_12 d hd hK x_F _ _ _ h
/-! ActSurgery$LikeGraphs.lay(LActSurgery$Arrows;II)V: level X -/
theorem dK_lay_0 : decode cK_lay 0 = .ok (.iload_n 3, 1) := by decide +kernel
theorem dK_lay_1 : decode cK_lay 1 = .ok (.aload_n 0, 1) := by decide +kernel
theorem dK_lay_2 : decode cK_lay 2 = .ok (.getfield 30, 3) := by decide +kernel
theorem dK_lay_5 : decode cK_lay 5 = .ok (.if_icmp .lt 8, 3) := by decide +kernel
theorem dK_lay_8 : decode cK_lay 8 = .ok (.aload_n 0, 1) := by decide +kernel
theorem dK_lay_9 : decode cK_lay 9 = .ok (.invokevirtual 45, 3) := by decide +kernel
theorem dK_lay_12 : decode cK_lay 12 = .ok (.return_, 1) := by decide +kernel
theorem dK_lay_13 : decode cK_lay 13 = .ok (.iconst 0, 1) := by decide +kernel
theorem dK_lay_14 : decode cK_lay 14 = .ok (.istore 4, 2) := by decide +kernel
theorem dK_lay_16 : decode cK_lay 16 = .ok (.iload 4, 2) := by decide +kernel
theorem dK_lay_18 : decode cK_lay 18 = .ok (.aload_n 0, 1) := by decide +kernel
theorem dK_lay_19 : decode cK_lay 19 = .ok (.getfield 30, 3) := by decide +kernel
theorem dK_lay_22 : decode cK_lay 22 = .ok (.if_icmp .ge 82, 3) := by decide +kernel
theorem dK_lay_25 : decode cK_lay 25 = .ok (.iload_n 2, 1) := by decide +kernel
theorem dK_lay_26 : decode cK_lay 26 = .ok (.iload 4, 2) := by decide +kernel
theorem dK_lay_28 : decode cK_lay 28 = .ok (.invokestatic 48, 3) := by decide +kernel
theorem dK_lay_31 : decode cK_lay 31 = .ok (.ifCond .ne 67, 3) := by decide +kernel
theorem dK_lay_34 : decode cK_lay 34 = .ok (.aload_n 0, 1) := by decide +kernel
theorem dK_lay_35 : decode cK_lay 35 = .ok (.iload 4, 2) := by decide +kernel
theorem dK_lay_37 : decode cK_lay 37 = .ok (.iload_n 3, 1) := by decide +kernel
theorem dK_lay_38 : decode cK_lay 38 = .ok (.invokevirtual 52, 3) := by decide +kernel
theorem dK_lay_41 : decode cK_lay 41 = .ok (.ifCond .eq 57, 3) := by decide +kernel
theorem dK_lay_44 : decode cK_lay 44 = .ok (.aload_n 0, 1) := by decide +kernel
theorem dK_lay_45 : decode cK_lay 45 = .ok (.getfield 18, 3) := by decide +kernel
theorem dK_lay_48 : decode cK_lay 48 = .ok (.iload 4, 2) := by decide +kernel
theorem dK_lay_50 : decode cK_lay 50 = .ok (.aload_n 0, 1) := by decide +kernel
theorem dK_lay_51 : decode cK_lay 51 = .ok (.getfield 9, 3) := by decide +kernel
theorem dK_lay_54 : decode cK_lay 54 = .ok (.iload 4, 2) := by decide +kernel
theorem dK_lay_56 : decode cK_lay 56 = .ok (.iaload, 1) := by decide +kernel
theorem dK_lay_57 : decode cK_lay 57 = .ok (.iload_n 2, 1) := by decide +kernel
theorem dK_lay_58 : decode cK_lay 58 = .ok (.iand, 1) := by decide +kernel
theorem dK_lay_59 : decode cK_lay 59 = .ok (.iastore, 1) := by decide +kernel
theorem dK_lay_60 : decode cK_lay 60 = .ok (.aload_n 0, 1) := by decide +kernel
theorem dK_lay_61 : decode cK_lay 61 = .ok (.iload 4, 2) := by decide +kernel
theorem dK_lay_63 : decode cK_lay 63 = .ok (.aload_n 1, 1) := by decide +kernel
theorem dK_lay_64 : decode cK_lay 64 = .ok (.getfield 38, 3) := by decide +kernel
theorem dK_lay_67 : decode cK_lay 67 = .ok (.iload 4, 2) := by decide +kernel
theorem dK_lay_69 : decode cK_lay 69 = .ok (.iaload, 1) := by decide +kernel
theorem dK_lay_70 : decode cK_lay 70 = .ok (.invokevirtual 55, 3) := by decide +kernel
theorem dK_lay_73 : decode cK_lay 73 = .ok (.ifCond .eq 25, 3) := by decide +kernel
theorem dK_lay_76 : decode cK_lay 76 = .ok (.aload_n 0, 1) := by decide +kernel
theorem dK_lay_77 : decode cK_lay 77 = .ok (.getfield 15, 3) := by decide +kernel
theorem dK_lay_80 : decode cK_lay 80 = .ok (.iload_n 3, 1) := by decide +kernel
theorem dK_lay_81 : decode cK_lay 81 = .ok (.iload 4, 2) := by decide +kernel
theorem dK_lay_83 : decode cK_lay 83 = .ok (.iastore, 1) := by decide +kernel
theorem dK_lay_84 : decode cK_lay 84 = .ok (.aload_n 0, 1) := by decide +kernel
theorem dK_lay_85 : decode cK_lay 85 = .ok (.aload_n 1, 1) := by decide +kernel
theorem dK_lay_86 : decode cK_lay 86 = .ok (.iload_n 2, 1) := by decide +kernel
theorem dK_lay_87 : decode cK_lay 87 = .ok (.iconst 1, 1) := by decide +kernel
theorem dK_lay_88 : decode cK_lay 88 = .ok (.iload 4, 2) := by decide +kernel
theorem dK_lay_90 : decode cK_lay 90 = .ok (.ishl, 1) := by decide +kernel
theorem dK_lay_91 : decode cK_lay 91 = .ok (.ior, 1) := by decide +kernel
theorem dK_lay_92 : decode cK_lay 92 = .ok (.iload_n 3, 1) := by decide +kernel
theorem dK_lay_93 : decode cK_lay 93 = .ok (.iconst 1, 1) := by decide +kernel
theorem dK_lay_94 : decode cK_lay 94 = .ok (.iadd, 1) := by decide +kernel
theorem dK_lay_95 : decode cK_lay 95 = .ok (.invokevirtual 41, 3) := by decide +kernel
theorem dK_lay_98 : decode cK_lay 98 = .ok (.iinc 4 1, 3) := by decide +kernel
theorem dK_lay_101 : decode cK_lay 101 = .ok (.goto (-85), 3) := by decide +kernel
theorem dK_lay_104 : decode cK_lay 104 = .ok (.return_, 1) := by decide +kernel
theorem tw_1_211 : (Jvm.Cond.instanceMethod ({ cls := "ActSurgery$LikeGraphs", name := "isLeastOrder", desc := "(II)Z" } : Jvm.MethodName)) ∈ x_GT := x_t1 211 rfl rfl
theorem tws_3 : (Jvm.Cond.selects "ActSurgery$LikeGraphs" ({ cls := "ActSurgery$LikeGraphs", name := "isLeastOrder", desc := "(II)Z" } : Jvm.MethodName) ({ cls := "ActSurgery$LikeGraphs", name := "isLeastOrder", desc := "(II)Z" } : Jvm.MethodName)) ∈ x_GT := x_ts 3 rfl rfl
theorem tw_1_212 : (Jvm.Cond.code ({ cls := "ActSurgery$LikeGraphs", name := "isLeastOrder", desc := "(II)Z" } : Jvm.MethodName) prog_4_method_5_code (4 : Nat) (Option.some Jvm.ClassFile.FieldType.boolean)) ∈ x_GT := x_t1 212 rfl rfl
theorem tw_1_209 : (Jvm.Cond.methodLink "ActSurgery$LikeGraphs" (52 : Nat) ({ cls := "ActSurgery$LikeGraphs", name := "isLeastOrder", desc := "(II)Z" } : Jvm.MethodName)) ∈ x_GT := x_t1 209 rfl rfl
theorem kK_52 : x_kV "ActSurgery$LikeGraphs" 52 yK_isLeastOrder cK_isLeastOrder 4 (some .boolean) 2 4 := ⟨tw_1_211, tws_3, tw_1_212, tw_1_4, tw_1_209, (by decide +kernel), rfl⟩
theorem tw_1_35 : (Jvm.Cond.fieldLink "ActSurgery$LikeGraphs" (38 : Nat) "ActSurgery$Arrows" "parents" "[I") ∈ x_GT := x_t1 35 rfl rfl
theorem tw_1_215 : (Jvm.Cond.instanceMethod ({ cls := "ActSurgery$LikeGraphs", name := "meetsAlike", desc := "(II)Z" } : Jvm.MethodName)) ∈ x_GT := x_t1 215 rfl rfl
theorem tws_4 : (Jvm.Cond.selects "ActSurgery$LikeGraphs" ({ cls := "ActSurgery$LikeGraphs", name := "meetsAlike", desc := "(II)Z" } : Jvm.MethodName) ({ cls := "ActSurgery$LikeGraphs", name := "meetsAlike", desc := "(II)Z" } : Jvm.MethodName)) ∈ x_GT := x_ts 4 rfl rfl
theorem tw_1_216 : (Jvm.Cond.code ({ cls := "ActSurgery$LikeGraphs", name := "meetsAlike", desc := "(II)Z" } : Jvm.MethodName) prog_4_method_6_code (4 : Nat) (Option.some Jvm.ClassFile.FieldType.boolean)) ∈ x_GT := x_t1 216 rfl rfl
theorem tw_1_213 : (Jvm.Cond.methodLink "ActSurgery$LikeGraphs" (55 : Nat) ({ cls := "ActSurgery$LikeGraphs", name := "meetsAlike", desc := "(II)Z" } : Jvm.MethodName)) ∈ x_GT := x_t1 213 rfl rfl
theorem kK_55 : x_kV "ActSurgery$LikeGraphs" 55 yK_meetsAlike cK_meetsAlike 4 (some .boolean) 2 4 := ⟨tw_1_215, tws_4, tw_1_216, tw_1_4, tw_1_213, (by decide +kernel), rfl⟩
theorem tw_1_202 : (Jvm.Cond.instanceMethod ({ cls := "ActSurgery$LikeGraphs", name := "lay", desc := "(LActSurgery$Arrows;II)V" } : Jvm.MethodName)) ∈ x_GT := x_t1 202 rfl rfl
theorem tws_1 : (Jvm.Cond.selects "ActSurgery$LikeGraphs" ({ cls := "ActSurgery$LikeGraphs", name := "lay", desc := "(LActSurgery$Arrows;II)V" } : Jvm.MethodName) ({ cls := "ActSurgery$LikeGraphs", name := "lay", desc := "(LActSurgery$Arrows;II)V" } : Jvm.MethodName)) ∈ x_GT := x_ts 1 rfl rfl
theorem tw_1_203 : (Jvm.Cond.code ({ cls := "ActSurgery$LikeGraphs", name := "lay", desc := "(LActSurgery$Arrows;II)V" } : Jvm.MethodName) prog_4_method_3_code (5 : Nat) (Option.none : Option Jvm.ClassFile.FieldType)) ∈ x_GT := x_t1 203 rfl rfl
theorem tw_1_200 : (Jvm.Cond.methodLink "ActSurgery$LikeGraphs" (41 : Nat) ({ cls := "ActSurgery$LikeGraphs", name := "lay", desc := "(LActSurgery$Arrows;II)V" } : Jvm.MethodName)) ∈ x_GT := x_t1 200 rfl rfl
theorem kK_41 : x_kV "ActSurgery$LikeGraphs" 41 yK_lay cK_lay 5 none 3 4 := ⟨tw_1_202, tws_1, tw_1_203, tw_1_4, tw_1_200, (by decide +kernel), rfl⟩
theorem tw_1_206 : (Jvm.Cond.instanceMethod ({ cls := "ActSurgery$LikeGraphs", name := "takeUp", desc := "()V" } : Jvm.MethodName)) ∈ x_GT := x_t1 206 rfl rfl
theorem tws_2 : (Jvm.Cond.selects "ActSurgery$LikeGraphs" ({ cls := "ActSurgery$LikeGraphs", name := "takeUp", desc := "()V" } : Jvm.MethodName) ({ cls := "ActSurgery$LikeGraphs", name := "takeUp", desc := "()V" } : Jvm.MethodName)) ∈ x_GT := x_ts 2 rfl rfl
theorem tw_1_207 : (Jvm.Cond.code ({ cls := "ActSurgery$LikeGraphs", name := "takeUp", desc := "()V" } : Jvm.MethodName) prog_4_method_4_code (2 : Nat) (Option.none : Option Jvm.ClassFile.FieldType)) ∈ x_GT := x_t1 207 rfl rfl
theorem tw_1_204 : (Jvm.Cond.methodLink "ActSurgery$LikeGraphs" (45 : Nat) ({ cls := "ActSurgery$LikeGraphs", name := "takeUp", desc := "()V" } : Jvm.MethodName)) ∈ x_GT := x_t1 204 rfl rfl
theorem kK_45 : x_kV "ActSurgery$LikeGraphs" 45 yK_takeUp cK_takeUp 2 none 0 4 := ⟨tw_1_206, tws_2, tw_1_207, tw_1_4, tw_1_204, (by decide +kernel), rfl⟩
def fK_lay_16 (rc : x_W → Nat → Nat → Int32 → Int32 → Option x_W) : Nat → x_W → Nat → Nat → Int32 → Int32 → Int32 → Option x_W
  | 0, _, _, _, _, _, _ => none
  | n + 1, w, v0, v1, v2, v3, v4 =>
    (x_fi w v0 4 4).bind fun t1 =>
    if t1 ≤ v4 then
      some w
    else
      if (fA_has v2 v4) = (0 : Int32) then
        (fK_isLeastOrder w v0 v4 v3).bind fun t4 =>
        if t4 = (0 : Int32) then
          fK_lay_16 rc n w v0 v1 v2 v3 (v4 + (1 : Int32))
        else
          (x_fr w v0 4 2).bind fun t6 =>
          (x_fr w v0 4 0).bind fun t7 =>
          (x_ai w t7 v4).bind fun t8 =>
          (x_pa w t6 v4 (t8 &&& v2)).bind fun w9 =>
          (x_fr w9 v1 1 1).bind fun t10 =>
          (x_ai w9 t10 v4).bind fun t11 =>
          (x_ob w9 v0 4).bind fun _ =>
          (fK_meetsAlike w9 v0 v4 t11).bind fun t13 =>
          if t13 = (0 : Int32) then
            fK_lay_16 rc n w9 v0 v1 v2 v3 (v4 + (1 : Int32))
          else
            (x_fr w9 v0 4 1).bind fun t15 =>
            (x_pa w9 t15 v3 v4).bind fun w16 =>
            (x_ob w16 v0 4).bind fun _ =>
            (rc w16 v0 v1 (v2 ||| ((1 : Int32) <<< (v4 &&& 31))) (v3 + (1 : Int32))).bind fun w18 =>
            fK_lay_16 rc n w18 v0 v1 v2 v3 (v4 + (1 : Int32))
      else
        fK_lay_16 rc n w v0 v1 v2 v3 (v4 + (1 : Int32))
def fK_lay  : Nat → x_W → Nat → Nat → Int32 → Int32 → Option x_W
  | 0, _, _, _, _, _ => none
  | n + 1, w, v0, v1, v2, v3 =>
    (x_fi w v0 4 4).bind fun t1 =>
    if v3 < t1 then
      fK_lay_16 (fK_lay  n) x_F w v0 v1 v2 v3 (0 : Int32)
    else
      (fK_takeUp w v0).bind fun w3 =>
      some w3
set_option maxHeartbeats 4000000 in
set_option maxRecDepth 100000 in
theorem lK_lay_16 (d : Nat) (hd : 5 ≤ d) {K : Option Value → x_W → Prop} {r : x_W} (hK : K none r) {rc : x_W → Nat → Nat → Int32 → Int32 → Option x_W} (hrc : ∀ (w : x_W) (v0 : Nat) (v1 : Nat) (v2 : Int32) (v3 : Int32) (r : x_W), rc w v0 v1 v2 v3 = some r → ∀ K : Option Value → x_W → Prop, K none r → x_M yK_lay cK_lay 5 none (d - 1) 0 0 [.ref v0, .ref v1, .int v2, .int v3] w K) : ∀ (n : Nat) (w : x_W) (v0 : Nat) (v1 : Nat) (v2 : Int32) (v3 : Int32) (v4 : Int32), fK_lay_16 rc n w v0 v1 v2 v3 v4 = some r → x_G none yK_lay cK_lay 5 none (x_room d 0 0) (x_QM K 0 0) 16 [some (.ref v0), some (.ref v1), some (.int v2), some (.int v3), some (.int v4)] [] w 0 0 := by
  intro n
  induction n with
  | zero => intro w v0 v1 v2 v3 v4 h; rw [fK_lay_16] at h; cases h
  | succ n ih =>
    intro w v0 v1 v2 v3 v4 h
    rw [fK_lay_16] at h
    refine g_iload 18 dK_lay_16 rfl rfl ?_
    refine g_aload_n 19 (i := 0) dK_lay_18 rfl rfl rfl ?_
    obtain ⟨t1, e1, h⟩ := x_bind h
    refine g_getfI 22 4 4 dK_lay_19 rfl x_in4 tw_1_80 rfl (by decide) e1 ?_
    by_cases c2 : t1 ≤ v4
    · rw [if_pos c2] at h
      refine g_icmp_ge_t 104 dK_lay_22 (by decide) c2 ?_
      obtain rfl := Option.some.inj h
      exact g_vret rfl dK_lay_104 hK
    · rw [if_neg c2] at h
      refine g_icmp_ge_f 25 104 dK_lay_22 (by decide) rfl c2 ?_
      refine g_iload_n 26 (i := 2) dK_lay_25 rfl rfl rfl ?_
      refine g_iload 28 dK_lay_26 rfl rfl ?_
      refine g_cSN 31 (some (.int (fA_has v2 v4))) w [.int v2, .int v4] [] dK_lay_28 rfl (fun _ hK2 => mA_has (d - 1) (by omega) rfl hK2) kK_48 (x_rm (Nat.le_trans (by decide) hd) (by decide)) ⟨Nat.zero_le _, Nat.zero_le _⟩ (Nat.le_of_ble_eq_true rfl) rfl ?_
      by_cases c3 : (fA_has v2 v4) = (0 : Int32)
      · rw [if_pos c3] at h
        refine g_if_ne_f 34 98 dK_lay_31 (by decide) rfl c3 ?_
        refine g_aload_n 35 (i := 0) dK_lay_34 rfl rfl rfl ?_
        refine g_iload 37 dK_lay_35 rfl rfl ?_
        refine g_iload_n 38 (i := 3) dK_lay_37 rfl rfl rfl ?_
        obtain ⟨t4, e4, h⟩ := x_bind h
        refine g_cV 41 (some (.int t4)) w [.int v4, .int v3] [] dK_lay_38 rfl (fun _ hK2 => mK_isLeastOrder (d - 1) (by omega) e4 hK2) (x_fi_ob e1) kK_52 (x_rm (Nat.le_trans (by decide) hd) (by decide)) ⟨Nat.zero_le _, Nat.zero_le _⟩ (Nat.le_of_ble_eq_true rfl) rfl ?_
        by_cases c5 : t4 = (0 : Int32)
        · rw [if_pos c5] at h
          refine g_if_eq_t 98 dK_lay_41 (by decide) c5 ?_
          refine g_iinc 101 [some (.ref v0), some (.ref v1), some (.int v2), some (.int v3), some (.int (v4 + (1 : Int32)))] dK_lay_98 rfl rfl (x_inc (1 : Int32) (by decide)) rfl (by decide) ?_
          refine g_goto 16 dK_lay_101 (by decide) ?_
          exact ih _ _ _ _ _ _ h
        · rw [if_neg c5] at h
          refine g_if_eq_f 44 98 dK_lay_41 (by decide) rfl c5 ?_
          refine g_aload_n 45 (i := 0) dK_lay_44 rfl rfl rfl ?_
          obtain ⟨t6, e6, h⟩ := x_bind h
          refine g_getfR 48 4 2 dK_lay_45 rfl x_in4 tw_1_78 rfl (by decide) e6 ?_
          refine g_iload 50 dK_lay_48 rfl rfl ?_
          refine g_aload_n 51 (i := 0) dK_lay_50 rfl rfl rfl ?_
          obtain ⟨t7, e7, h⟩ := x_bind h
          refine g_getfR 54 4 0 dK_lay_51 rfl x_in4 tw_1_76 rfl (by decide) e7 ?_
          refine g_iload 56 dK_lay_54 rfl rfl ?_
          obtain ⟨t8, e8, h⟩ := x_bind h
          refine g_iald 57 dK_lay_56 rfl e8 ?_
          refine g_iload_n 58 (i := 2) dK_lay_57 rfl rfl rfl ?_
          refine g_iand 59 dK_lay_58 rfl ?_
          obtain ⟨w9, e9, h⟩ := x_bind h
          refine g_iast 60 dK_lay_59 rfl e9 ?_
          refine g_aload_n 61 (i := 0) dK_lay_60 rfl rfl rfl ?_
          refine g_iload 63 dK_lay_61 rfl rfl ?_
          refine g_aload_n 64 (i := 1) dK_lay_63 rfl rfl rfl ?_
          obtain ⟨t10, e10, h⟩ := x_bind h
          refine g_getfR 67 1 1 dK_lay_64 rfl x_in1 tw_1_35 rfl (by decide) e10 ?_
          refine g_iload 69 dK_lay_67 rfl rfl ?_
          obtain ⟨t11, e11, h⟩ := x_bind h
          refine g_iald 70 dK_lay_69 rfl e11 ?_
          obtain ⟨_, e12, h⟩ := x_bind h
          obtain ⟨t13, e13, h⟩ := x_bind h
          refine g_cV 73 (some (.int t13)) w9 [.int v4, .int t11] [] dK_lay_70 rfl (fun _ hK2 => mK_meetsAlike (d - 1) (by omega) e13 hK2) (x_ob_some e12) kK_55 (x_rm (Nat.le_trans (by decide) hd) (by decide)) ⟨Nat.zero_le _, Nat.zero_le _⟩ (Nat.le_of_ble_eq_true rfl) rfl ?_
          by_cases c14 : t13 = (0 : Int32)
          · rw [if_pos c14] at h
            refine g_if_eq_t 98 dK_lay_73 (by decide) c14 ?_
            refine g_iinc 101 [some (.ref v0), some (.ref v1), some (.int v2), some (.int v3), some (.int (v4 + (1 : Int32)))] dK_lay_98 rfl rfl (x_inc (1 : Int32) (by decide)) rfl (by decide) ?_
            refine g_goto 16 dK_lay_101 (by decide) ?_
            exact ih _ _ _ _ _ _ h
          · rw [if_neg c14] at h
            refine g_if_eq_f 76 98 dK_lay_73 (by decide) rfl c14 ?_
            refine g_aload_n 77 (i := 0) dK_lay_76 rfl rfl rfl ?_
            obtain ⟨t15, e15, h⟩ := x_bind h
            refine g_getfR 80 4 1 dK_lay_77 rfl x_in4 tw_1_77 rfl (by decide) e15 ?_
            refine g_iload_n 81 (i := 3) dK_lay_80 rfl rfl rfl ?_
            refine g_iload 83 dK_lay_81 rfl rfl ?_
            obtain ⟨w16, e16, h⟩ := x_bind h
            refine g_iast 84 dK_lay_83 rfl e16 ?_
            refine g_aload_n 85 (i := 0) dK_lay_84 rfl rfl rfl ?_
            refine g_aload_n 86 (i := 1) dK_lay_85 rfl rfl rfl ?_
            refine g_iload_n 87 (i := 2) dK_lay_86 rfl rfl rfl ?_
            refine g_iconst 88 (1 : Int32) dK_lay_87 rfl (by decide) ?_
            refine g_iload 90 dK_lay_88 rfl rfl ?_
            refine g_ishl 91 dK_lay_90 rfl ?_
            refine g_ior 92 dK_lay_91 rfl ?_
            refine g_iload_n 93 (i := 3) dK_lay_92 rfl rfl rfl ?_
            refine g_iconst 94 (1 : Int32) dK_lay_93 rfl (by decide) ?_
            refine g_iadd 95 dK_lay_94 rfl ?_
            obtain ⟨_, e17, h⟩ := x_bind h
            obtain ⟨w18, e18, h⟩ := x_bind h
            refine g_cV 98 none w18 [.ref v1, .int (v2 ||| ((1 : Int32) <<< (v4 &&& 31))), .int (v3 + (1 : Int32))] [] dK_lay_95 rfl (fun _ hK2 => hrc _ _ _ _ _ _ e18 _ hK2) (x_ob_some e17) kK_41 (x_rm (Nat.le_trans (by decide) hd) (by decide)) ⟨Nat.zero_le _, Nat.zero_le _⟩ (Nat.le_of_ble_eq_true rfl) rfl ?_
            refine g_iinc 101 [some (.ref v0), some (.ref v1), some (.int v2), some (.int v3), some (.int (v4 + (1 : Int32)))] dK_lay_98 rfl rfl (x_inc (1 : Int32) (by decide)) rfl (by decide) ?_
            refine g_goto 16 dK_lay_101 (by decide) ?_
            exact ih _ _ _ _ _ _ h
      · rw [if_neg c3] at h
        refine g_if_ne_t 98 dK_lay_31 (by decide) c3 ?_
        refine g_iinc 101 [some (.ref v0), some (.ref v1), some (.int v2), some (.int v3), some (.int (v4 + (1 : Int32)))] dK_lay_98 rfl rfl (x_inc (1 : Int32) (by decide)) rfl (by decide) ?_
        refine g_goto 16 dK_lay_101 (by decide) ?_
        exact ih _ _ _ _ _ _ h
set_option maxHeartbeats 4000000 in
set_option maxRecDepth 100000 in
theorem mK_lay : ∀ (k d : Nat) (_ : 4 + k ≤ d) (K : Option Value → x_W → Prop) (w : x_W) (v0 : Nat) (v1 : Nat) (v2 : Int32) (v3 : Int32) (r : x_W) (_ : fK_lay k w v0 v1 v2 v3 = some r) (_ : K none r), x_M yK_lay cK_lay 5 none d 0 0 [.ref v0, .ref v1, .int v2, .int v3] w K := by
  intro k
  induction k with
  | zero => intro d hd K w v0 v1 v2 v3 r h hK; rw [fK_lay] at h; cases h
  | succ k ih =>
    intro d hd K w v0 v1 v2 v3 r h hK
    have hrc : ∀ (w : x_W) (v0 : Nat) (v1 : Nat) (v2 : Int32) (v3 : Int32) (r : x_W), fK_lay k w v0 v1 v2 v3 = some r → ∀ K : Option Value → x_W → Prop, K none r → x_M yK_lay cK_lay 5 none (d - 1) 0 0 [.ref v0, .ref v1, .int v2, .int v3] w K := fun w v0 v1 v2 v3 r h K hK => ih (d - 1) (by omega) K w v0 v1 v2 v3 r h hK
    have hd : 5 ≤ d := by omega
    refine x_M.of [some (.ref v0), some (.ref v1), some (.int v2), some (.int v3), none] (by decide) rfl (Nat.le_of_ble_eq_true rfl) ?_
    rw [fK_lay] at h
    refine g_iload_n 1 (i := 3) dK_lay_0 rfl rfl rfl ?_
    refine g_aload_n 2 (i := 0) dK_lay_1 rfl rfl rfl ?_
    obtain ⟨t1, e1, h⟩ := x_bind h
    refine g_getfI 5 4 4 dK_lay_2 rfl x_in4 tw_1_80 rfl (by decide) e1 ?_
    by_cases c2 : v3 < t1
    · rw [if_pos c2] at h
      refine g_icmp_lt_t 13 dK_lay_5 (by decide) c2 ?_
      refine g_iconst 14 (0 : Int32) dK_lay_13 rfl (by decide) ?_
      refine g_istore 16 [some (.ref v0), some (.ref v1), some (.int v2), some (.int v3), some (.int (0 : Int32))] dK_lay_14 rfl rfl (by decide) ?_
      exact lK_lay_16 d hd hK hrc x_F _ _ _ _ _ _ h
    · rw [if_neg c2] at h
      refine g_icmp_lt_f 8 13 dK_lay_5 (by decide) rfl c2 ?_
      refine g_aload_n 9 (i := 0) dK_lay_8 rfl rfl rfl ?_
      obtain ⟨w3, e3, h⟩ := x_bind h
      refine g_cV 12 none w3 [] [] dK_lay_9 rfl (fun _ hK2 => mK_takeUp (d - 1) (by omega) e3 hK2) (x_fi_ob e1) kK_45 (x_rm (Nat.le_trans (by decide) hd) (by decide)) ⟨Nat.zero_le _, Nat.zero_le _⟩ (Nat.le_of_ble_eq_true rfl) rfl ?_
      obtain rfl := Option.some.inj h
      exact g_vret rfl dK_lay_12 hK
/-! ActSurgery$LikeGraphs.find(LActSurgery$Arrows;)V: level X -/
theorem dK_find_0 : decode cK_find 0 = .ok (.aload_n 0, 1) := by decide +kernel
theorem dK_find_1 : decode cK_find 1 = .ok (.aload_n 1, 1) := by decide +kernel
theorem dK_find_2 : decode cK_find 2 = .ok (.getfield 24, 3) := by decide +kernel
theorem dK_find_5 : decode cK_find 5 = .ok (.putfield 30, 3) := by decide +kernel
theorem dK_find_8 : decode cK_find 8 = .ok (.aload_n 0, 1) := by decide +kernel
theorem dK_find_9 : decode cK_find 9 = .ok (.iconst 0, 1) := by decide +kernel
theorem dK_find_10 : decode cK_find 10 = .ok (.putfield 31, 3) := by decide +kernel
theorem dK_find_13 : decode cK_find 13 = .ok (.iconst 0, 1) := by decide +kernel
theorem dK_find_14 : decode cK_find 14 = .ok (.istore_n 2, 1) := by decide +kernel
theorem dK_find_15 : decode cK_find 15 = .ok (.iload_n 2, 1) := by decide +kernel
theorem dK_find_16 : decode cK_find 16 = .ok (.aload_n 0, 1) := by decide +kernel
theorem dK_find_17 : decode cK_find 17 = .ok (.getfield 30, 3) := by decide +kernel
theorem dK_find_20 : decode cK_find 20 = .ok (.if_icmp .ge 32, 3) := by decide +kernel
theorem dK_find_23 : decode cK_find 23 = .ok (.aload_n 0, 1) := by decide +kernel
theorem dK_find_24 : decode cK_find 24 = .ok (.getfield 9, 3) := by decide +kernel
theorem dK_find_27 : decode cK_find 27 = .ok (.iload_n 2, 1) := by decide +kernel
theorem dK_find_28 : decode cK_find 28 = .ok (.aload_n 1, 1) := by decide +kernel
theorem dK_find_29 : decode cK_find 29 = .ok (.iload_n 2, 1) := by decide +kernel
theorem dK_find_30 : decode cK_find 30 = .ok (.invokevirtual 34, 3) := by decide +kernel
theorem dK_find_33 : decode cK_find 33 = .ok (.iastore, 1) := by decide +kernel
theorem dK_find_34 : decode cK_find 34 = .ok (.aload_n 0, 1) := by decide +kernel
theorem dK_find_35 : decode cK_find 35 = .ok (.getfield 21, 3) := by decide +kernel
theorem dK_find_38 : decode cK_find 38 = .ok (.iload_n 2, 1) := by decide +kernel
theorem dK_find_39 : decode cK_find 39 = .ok (.aload_n 1, 1) := by decide +kernel
theorem dK_find_40 : decode cK_find 40 = .ok (.getfield 38, 3) := by decide +kernel
theorem dK_find_43 : decode cK_find 43 = .ok (.iload_n 2, 1) := by decide +kernel
theorem dK_find_44 : decode cK_find 44 = .ok (.iaload, 1) := by decide +kernel
theorem dK_find_45 : decode cK_find 45 = .ok (.iastore, 1) := by decide +kernel
theorem dK_find_46 : decode cK_find 46 = .ok (.iinc 2 1, 3) := by decide +kernel
theorem dK_find_49 : decode cK_find 49 = .ok (.goto (-34), 3) := by decide +kernel
theorem dK_find_52 : decode cK_find 52 = .ok (.aload_n 0, 1) := by decide +kernel
theorem dK_find_53 : decode cK_find 53 = .ok (.aload_n 1, 1) := by decide +kernel
theorem dK_find_54 : decode cK_find 54 = .ok (.iconst 0, 1) := by decide +kernel
theorem dK_find_55 : decode cK_find 55 = .ok (.iconst 0, 1) := by decide +kernel
theorem dK_find_56 : decode cK_find 56 = .ok (.invokevirtual 41, 3) := by decide +kernel
theorem dK_find_59 : decode cK_find 59 = .ok (.return_, 1) := by decide +kernel
theorem tw_1_192 : (Jvm.Cond.instanceMethod ({ cls := "ActSurgery$Arrows", name := "besideOf", desc := "(I)I" } : Jvm.MethodName)) ∈ x_GT := x_t1 192 rfl rfl
theorem tw_1_193 : (Jvm.Cond.selects "ActSurgery$Arrows" ({ cls := "ActSurgery$Arrows", name := "besideOf", desc := "(I)I" } : Jvm.MethodName) ({ cls := "ActSurgery$Arrows", name := "besideOf", desc := "(I)I" } : Jvm.MethodName)) ∈ x_GT := x_t1 193 rfl rfl
theorem tw_1_194 : (Jvm.Cond.code ({ cls := "ActSurgery$Arrows", name := "besideOf", desc := "(I)I" } : Jvm.MethodName) prog_2_method_5_code (2 : Nat) (Option.some Jvm.ClassFile.FieldType.int)) ∈ x_GT := x_t1 194 rfl rfl
theorem tw_1_191 : (Jvm.Cond.methodLink "ActSurgery$LikeGraphs" (34 : Nat) ({ cls := "ActSurgery$Arrows", name := "besideOf", desc := "(I)I" } : Jvm.MethodName)) ∈ x_GT := x_t1 191 rfl rfl
theorem kK_34 : x_kV "ActSurgery$LikeGraphs" 34 yR_besideOf cR_besideOf 2 (some .int) 1 1 := ⟨tw_1_192, tw_1_193, tw_1_194, tw_1_3, tw_1_191, (by decide +kernel), rfl⟩
theorem tw_1_30 : (Jvm.Cond.fieldLink "ActSurgery$LikeGraphs" (24 : Nat) "ActSurgery$Arrows" "size" "I") ∈ x_GT := x_t1 30 rfl rfl
def fK_find_15  : Nat → x_W → Nat → Nat → Int32 → Option x_W
  | 0, _, _, _, _ => none
  | n + 1, w, v0, v1, v2 =>
    (x_fi w v0 4 4).bind fun t1 =>
    if t1 ≤ v2 then
      (fK_lay 8 w v0 v1 (0 : Int32) (0 : Int32)).bind fun w3 =>
      some w3
    else
      (x_fr w v0 4 0).bind fun t4 =>
      (x_ob w v1 1).bind fun _ =>
      (fR_besideOf w v1 v2).bind fun t6 =>
      (x_pa w t4 v2 t6).bind fun w7 =>
      (x_fr w7 v0 4 3).bind fun t8 =>
      (x_fr w7 v1 1 1).bind fun t9 =>
      (x_ai w7 t9 v2).bind fun t10 =>
      (x_pa w7 t8 v2 t10).bind fun w11 =>
      fK_find_15 n w11 v0 v1 (v2 + (1 : Int32))
def fK_find  (w : x_W) (v0 : Nat) (v1 : Nat) : Option x_W :=
  (x_fi w v1 1 0).bind fun t1 =>
  (x_pf w v0 4 4 (.int t1)).bind fun w2 =>
  (x_pf w2 v0 4 5 (.int (0 : Int32))).bind fun w3 =>
  fK_find_15 x_F w3 v0 v1 (0 : Int32)
set_option maxHeartbeats 4000000 in
set_option maxRecDepth 100000 in
theorem lK_find_15 (d : Nat) (hd : 13 ≤ d) {K : Option Value → x_W → Prop} {r : x_W} (hK : K none r) : ∀ (n : Nat) (w : x_W) (v0 : Nat) (v1 : Nat) (v2 : Int32), fK_find_15 n w v0 v1 v2 = some r → x_G none yK_find cK_find 3 none (x_room d 0 0) (x_QM K 0 0) 15 [some (.ref v0), some (.ref v1), some (.int v2)] [] w 0 0 := by
  intro n
  induction n with
  | zero => intro w v0 v1 v2 h; rw [fK_find_15] at h; cases h
  | succ n ih =>
    intro w v0 v1 v2 h
    rw [fK_find_15] at h
    refine g_iload_n 16 (i := 2) dK_find_15 rfl rfl rfl ?_
    refine g_aload_n 17 (i := 0) dK_find_16 rfl rfl rfl ?_
    obtain ⟨t1, e1, h⟩ := x_bind h
    refine g_getfI 20 4 4 dK_find_17 rfl x_in4 tw_1_80 rfl (by decide) e1 ?_
    by_cases c2 : t1 ≤ v2
    · rw [if_pos c2] at h
      refine g_icmp_ge_t 52 dK_find_20 (by decide) c2 ?_
      refine g_aload_n 53 (i := 0) dK_find_52 rfl rfl rfl ?_
      refine g_aload_n 54 (i := 1) dK_find_53 rfl rfl rfl ?_
      refine g_iconst 55 (0 : Int32) dK_find_54 rfl (by decide) ?_
      refine g_iconst 56 (0 : Int32) dK_find_55 rfl (by decide) ?_
      obtain ⟨w3, e3, h⟩ := x_bind h
      refine g_cV 59 none w3 [.ref v1, .int (0 : Int32), .int (0 : Int32)] [] dK_find_56 rfl (fun _ hK2 => mK_lay 8 (d - 1) (by omega) _ _ _ _ _ _ _ e3 hK2) (x_fi_ob e1) kK_41 (x_rm (Nat.le_trans (by decide) hd) (by decide)) ⟨Nat.zero_le _, Nat.zero_le _⟩ (Nat.le_of_ble_eq_true rfl) rfl ?_
      obtain rfl := Option.some.inj h
      exact g_vret rfl dK_find_59 hK
    · rw [if_neg c2] at h
      refine g_icmp_ge_f 23 52 dK_find_20 (by decide) rfl c2 ?_
      refine g_aload_n 24 (i := 0) dK_find_23 rfl rfl rfl ?_
      obtain ⟨t4, e4, h⟩ := x_bind h
      refine g_getfR 27 4 0 dK_find_24 rfl x_in4 tw_1_76 rfl (by decide) e4 ?_
      refine g_iload_n 28 (i := 2) dK_find_27 rfl rfl rfl ?_
      refine g_aload_n 29 (i := 1) dK_find_28 rfl rfl rfl ?_
      refine g_iload_n 30 (i := 2) dK_find_29 rfl rfl rfl ?_
      obtain ⟨_, e5, h⟩ := x_bind h
      obtain ⟨t6, e6, h⟩ := x_bind h
      refine g_cV 33 (some (.int t6)) w [.int v2] [.int v2, .ref t4] dK_find_30 rfl (fun _ hK2 => mR_besideOf (d - 1) (by omega) e6 hK2) (x_ob_some e5) kK_34 (x_rm (Nat.le_trans (by decide) hd) (by decide)) ⟨Nat.zero_le _, Nat.zero_le _⟩ (Nat.le_of_ble_eq_true rfl) rfl ?_
      obtain ⟨w7, e7, h⟩ := x_bind h
      refine g_iast 34 dK_find_33 rfl e7 ?_
      refine g_aload_n 35 (i := 0) dK_find_34 rfl rfl rfl ?_
      obtain ⟨t8, e8, h⟩ := x_bind h
      refine g_getfR 38 4 3 dK_find_35 rfl x_in4 tw_1_79 rfl (by decide) e8 ?_
      refine g_iload_n 39 (i := 2) dK_find_38 rfl rfl rfl ?_
      refine g_aload_n 40 (i := 1) dK_find_39 rfl rfl rfl ?_
      obtain ⟨t9, e9, h⟩ := x_bind h
      refine g_getfR 43 1 1 dK_find_40 rfl x_in1 tw_1_35 rfl (by decide) e9 ?_
      refine g_iload_n 44 (i := 2) dK_find_43 rfl rfl rfl ?_
      obtain ⟨t10, e10, h⟩ := x_bind h
      refine g_iald 45 dK_find_44 rfl e10 ?_
      obtain ⟨w11, e11, h⟩ := x_bind h
      refine g_iast 46 dK_find_45 rfl e11 ?_
      refine g_iinc 49 [some (.ref v0), some (.ref v1), some (.int (v2 + (1 : Int32)))] dK_find_46 rfl rfl (x_inc (1 : Int32) (by decide)) rfl (by decide) ?_
      refine g_goto 15 dK_find_49 (by decide) ?_
      exact ih _ _ _ _ h
set_option maxHeartbeats 4000000 in
set_option maxRecDepth 100000 in
theorem mK_find (d : Nat) (hd : 13 ≤ d) {K : Option Value → x_W → Prop} {w : x_W} {v0 : Nat} {v1 : Nat} {r : x_W} (h : fK_find w v0 v1 = some r) (hK : K none r) : x_M yK_find cK_find 3 none d 0 0 [.ref v0, .ref v1] w K := by
  refine x_M.of [some (.ref v0), some (.ref v1), none] (by decide) rfl (Nat.le_of_ble_eq_true rfl) ?_
  unfold fK_find at h
  refine g_aload_n 1 (i := 0) dK_find_0 rfl rfl rfl ?_
  refine g_aload_n 2 (i := 1) dK_find_1 rfl rfl rfl ?_
  obtain ⟨t1, e1, h⟩ := x_bind h
  refine g_getfI 5 1 0 dK_find_2 rfl x_in1 tw_1_30 rfl (by decide) e1 ?_
  obtain ⟨w2, e2, h⟩ := x_bind h
  refine g_putf 8 4 4 xy4 xy4_ok xn4 dK_find_5 rfl x_in4 tw_1_80 rfl (by decide) rfl (fun _ _ => ⟨rfl, rfl⟩) e2 ?_
  refine g_aload_n 9 (i := 0) dK_find_8 rfl rfl rfl ?_
  refine g_iconst 10 (0 : Int32) dK_find_9 rfl (by decide) ?_
  obtain ⟨w3, e3, h⟩ := x_bind h
  refine g_putf 13 4 5 xy4 xy4_ok xn4 dK_find_10 rfl x_in4 tw_1_81 rfl (by decide) rfl (fun _ _ => ⟨rfl, rfl⟩) e3 ?_
  refine g_iconst 14 (0 : Int32) dK_find_13 rfl (by decide) ?_
  refine g_istore_n 15 (i := 2) [some (.ref v0), some (.ref v1), some (.int (0 : Int32))] dK_find_14 rfl rfl rfl (by decide) ?_
  exact lK_find_15 d hd hK x_F _ _ _ _ h
/-! ActSurgery$LikeGraphs.howManySure()I: level P -/
theorem dK_howManySure_0 : decode cK_howManySure 0 = .ok (.iconst 0, 1) := by decide +kernel
theorem dK_howManySure_1 : decode cK_howManySure 1 = .ok (.istore_n 1, 1) := by decide +kernel
theorem dK_howManySure_2 : decode cK_howManySure 2 = .ok (.iconst 0, 1) := by decide +kernel
theorem dK_howManySure_3 : decode cK_howManySure 3 = .ok (.istore_n 2, 1) := by decide +kernel
theorem dK_howManySure_4 : decode cK_howManySure 4 = .ok (.iload_n 2, 1) := by decide +kernel
theorem dK_howManySure_5 : decode cK_howManySure 5 = .ok (.aload_n 0, 1) := by decide +kernel
theorem dK_howManySure_6 : decode cK_howManySure 6 = .ok (.getfield 30, 3) := by decide +kernel
theorem dK_howManySure_9 : decode cK_howManySure 9 = .ok (.if_icmp .ge 21, 3) := by decide +kernel
theorem dK_howManySure_12 : decode cK_howManySure 12 = .ok (.iload_n 1, 1) := by decide +kernel
theorem dK_howManySure_13 : decode cK_howManySure 13 = .ok (.aload_n 0, 1) := by decide +kernel
theorem dK_howManySure_14 : decode cK_howManySure 14 = .ok (.getfield 21, 3) := by decide +kernel
theorem dK_howManySure_17 : decode cK_howManySure 17 = .ok (.iload_n 2, 1) := by decide +kernel
theorem dK_howManySure_18 : decode cK_howManySure 18 = .ok (.iaload, 1) := by decide +kernel
theorem dK_howManySure_19 : decode cK_howManySure 19 = .ok (.invokestatic 62, 3) := by decide +kernel
theorem dK_howManySure_22 : decode cK_howManySure 22 = .ok (.iadd, 1) := by decide +kernel
theorem dK_howManySure_23 : decode cK_howManySure 23 = .ok (.istore_n 1, 1) := by decide +kernel
theorem dK_howManySure_24 : decode cK_howManySure 24 = .ok (.iinc 2 1, 3) := by decide +kernel
theorem dK_howManySure_27 : decode cK_howManySure 27 = .ok (.goto (-23), 3) := by decide +kernel
theorem dK_howManySure_30 : decode cK_howManySure 30 = .ok (.iload_n 1, 1) := by decide +kernel
theorem dK_howManySure_31 : decode cK_howManySure 31 = .ok (.ireturn, 1) := by decide +kernel
theorem tw_1_225 : (Jvm.Cond.methodLink "ActSurgery$LikeGraphs" (62 : Nat) ({ cls := "java/lang/Integer", name := "bitCount", desc := "(I)I" } : Jvm.MethodName)) ∈ x_GT := x_t1 225 rfl rfl
theorem kK_62 : x_kS "ActSurgery$LikeGraphs" 62 yI_bitCount cI_bitCount 1 (some .int) 1 := ⟨tw_1_182, tw_1_183, tw_1_7, tw_1_225, (by decide +kernel)⟩
def fK_howManySure_4 (w : x_W) : Nat → Nat → Int32 → Int32 → Option Int32
  | 0, _, _, _ => none
  | n + 1, v0, v1, v2 =>
    (x_fi w v0 4 4).bind fun t1 =>
    if t1 ≤ v2 then
      some v1
    else
      (x_fr w v0 4 3).bind fun t3 =>
      (x_ai w t3 v2).bind fun t4 =>
      fK_howManySure_4 w n v0 (v1 + (fI_bitCount t4)) (v2 + (1 : Int32))
def fK_howManySure (w : x_W) (v0 : Nat) : Option Int32 :=
  fK_howManySure_4 w x_F v0 (0 : Int32) (0 : Int32)
set_option maxHeartbeats 4000000 in
set_option maxRecDepth 100000 in
theorem lK_howManySure_4 (d : Nat) (hd : 2 ≤ d) {K : Option Value → x_W → Prop} {r : Int32} {w : x_W} (hK : K (some (.int r)) w) : ∀ (n : Nat) (v0 : Nat) (v1 : Int32) (v2 : Int32), fK_howManySure_4 w n v0 v1 v2 = some r → x_G none yK_howManySure cK_howManySure 3 (some .int) (x_room d 0 0) (x_QM K 0 0) 4 [some (.ref v0), some (.int v1), some (.int v2)] [] w 0 0 := by
  intro n
  induction n with
  | zero => intro v0 v1 v2 h; rw [fK_howManySure_4] at h; cases h
  | succ n ih =>
    intro v0 v1 v2 h
    rw [fK_howManySure_4] at h
    refine g_iload_n 5 (i := 2) dK_howManySure_4 rfl rfl rfl ?_
    refine g_aload_n 6 (i := 0) dK_howManySure_5 rfl rfl rfl ?_
    obtain ⟨t1, e1, h⟩ := x_bind h
    refine g_getfI 9 4 4 dK_howManySure_6 rfl x_in4 tw_1_80 rfl (by decide) e1 ?_
    by_cases c2 : t1 ≤ v2
    · rw [if_pos c2] at h
      refine g_icmp_ge_t 30 dK_howManySure_9 (by decide) c2 ?_
      refine g_iload_n 31 (i := 1) dK_howManySure_30 rfl rfl rfl ?_
      obtain rfl := Option.some.inj h
      exact g_iret rfl dK_howManySure_31 hK
    · rw [if_neg c2] at h
      refine g_icmp_ge_f 12 30 dK_howManySure_9 (by decide) rfl c2 ?_
      refine g_iload_n 13 (i := 1) dK_howManySure_12 rfl rfl rfl ?_
      refine g_aload_n 14 (i := 0) dK_howManySure_13 rfl rfl rfl ?_
      obtain ⟨t3, e3, h⟩ := x_bind h
      refine g_getfR 17 4 3 dK_howManySure_14 rfl x_in4 tw_1_79 rfl (by decide) e3 ?_
      refine g_iload_n 18 (i := 2) dK_howManySure_17 rfl rfl rfl ?_
      obtain ⟨t4, e4, h⟩ := x_bind h
      refine g_iald 19 dK_howManySure_18 rfl e4 ?_
      refine g_cS 22 (some (.int (fI_bitCount t4))) w [.int t4] [.int v1] dK_howManySure_19 rfl (fun _ hK2 => mI_bitCount (d - 1) (by omega) rfl hK2) kK_62 (x_rm (Nat.le_trans (by decide) hd) (by decide)) ⟨Nat.zero_le _, Nat.zero_le _⟩ (Nat.le_of_ble_eq_true rfl) rfl ?_
      refine g_iadd 23 dK_howManySure_22 rfl ?_
      refine g_istore_n 24 (i := 1) [some (.ref v0), some (.int (v1 + (fI_bitCount t4))), some (.int v2)] dK_howManySure_23 rfl rfl rfl (by decide) ?_
      refine g_iinc 27 [some (.ref v0), some (.int (v1 + (fI_bitCount t4))), some (.int (v2 + (1 : Int32)))] dK_howManySure_24 rfl rfl (x_inc (1 : Int32) (by decide)) rfl (by decide) ?_
      refine g_goto 4 dK_howManySure_27 (by decide) ?_
      exact ih _ _ _ h
set_option maxHeartbeats 4000000 in
set_option maxRecDepth 100000 in
theorem mK_howManySure (d : Nat) (hd : 2 ≤ d) {K : Option Value → x_W → Prop} {w : x_W} {v0 : Nat} {r : Int32} (h : fK_howManySure w v0 = some r) (hK : K (some (.int r)) w) : x_M yK_howManySure cK_howManySure 3 (some .int) d 0 0 [.ref v0] w K := by
  refine x_M.of [some (.ref v0), none, none] (by decide) rfl (Nat.le_of_ble_eq_true rfl) ?_
  unfold fK_howManySure at h
  refine g_iconst 1 (0 : Int32) dK_howManySure_0 rfl (by decide) ?_
  refine g_istore_n 2 (i := 1) [some (.ref v0), some (.int (0 : Int32)), none] dK_howManySure_1 rfl rfl rfl (by decide) ?_
  refine g_iconst 3 (0 : Int32) dK_howManySure_2 rfl (by decide) ?_
  refine g_istore_n 4 (i := 2) [some (.ref v0), some (.int (0 : Int32)), some (.int (0 : Int32))] dK_howManySure_3 rfl rfl rfl (by decide) ?_
  exact lK_howManySure_4 d hd hK x_F _ _ _ h
/-! ActSurgery.count(I)I: level X -/
theorem dA_count_0 : decode cA_count 0 = .ok (.iload_n 1, 1) := by decide +kernel
theorem dA_count_1 : decode cA_count 1 = .ok (.tableswitch 130 0 6 #[43, 54, 65, 73, 95, 117, 125], 43) := by decide +kernel
theorem dA_count_44 : decode cA_count 44 = .ok (.aload_n 0, 1) := by decide +kernel
theorem dA_count_45 : decode cA_count 45 = .ok (.getfield 10, 3) := by decide +kernel
theorem dA_count_48 : decode cA_count 48 = .ok (.getfield 43, 3) := by decide +kernel
theorem dA_count_51 : decode cA_count 51 = .ok (.getfield 46, 3) := by decide +kernel
theorem dA_count_54 : decode cA_count 54 = .ok (.ireturn, 1) := by decide +kernel
theorem dA_count_55 : decode cA_count 55 = .ok (.aload_n 0, 1) := by decide +kernel
theorem dA_count_56 : decode cA_count 56 = .ok (.getfield 10, 3) := by decide +kernel
theorem dA_count_59 : decode cA_count 59 = .ok (.getfield 43, 3) := by decide +kernel
theorem dA_count_62 : decode cA_count 62 = .ok (.invokevirtual 92, 3) := by decide +kernel
theorem dA_count_65 : decode cA_count 65 = .ok (.ireturn, 1) := by decide +kernel
theorem dA_count_66 : decode cA_count 66 = .ok (.aload_n 0, 1) := by decide +kernel
theorem dA_count_67 : decode cA_count 67 = .ok (.getfield 10, 3) := by decide +kernel
theorem dA_count_70 : decode cA_count 70 = .ok (.getfield 82, 3) := by decide +kernel
theorem dA_count_73 : decode cA_count 73 = .ok (.ireturn, 1) := by decide +kernel
theorem dA_count_74 : decode cA_count 74 = .ok (.aload_n 0, 1) := by decide +kernel
theorem dA_count_75 : decode cA_count 75 = .ok (.getfield 29, 3) := by decide +kernel
theorem dA_count_78 : decode cA_count 78 = .ok (.aload_n 0, 1) := by decide +kernel
theorem dA_count_79 : decode cA_count 79 = .ok (.getfield 10, 3) := by decide +kernel
theorem dA_count_82 : decode cA_count 82 = .ok (.getfield 43, 3) := by decide +kernel
theorem dA_count_85 : decode cA_count 85 = .ok (.invokevirtual 96, 3) := by decide +kernel
theorem dA_count_88 : decode cA_count 88 = .ok (.aload_n 0, 1) := by decide +kernel
theorem dA_count_89 : decode cA_count 89 = .ok (.getfield 29, 3) := by decide +kernel
theorem dA_count_92 : decode cA_count 92 = .ok (.getfield 100, 3) := by decide +kernel
theorem dA_count_95 : decode cA_count 95 = .ok (.ireturn, 1) := by decide +kernel
theorem dA_count_96 : decode cA_count 96 = .ok (.aload_n 0, 1) := by decide +kernel
theorem dA_count_97 : decode cA_count 97 = .ok (.getfield 29, 3) := by decide +kernel
theorem dA_count_100 : decode cA_count 100 = .ok (.aload_n 0, 1) := by decide +kernel
theorem dA_count_101 : decode cA_count 101 = .ok (.getfield 10, 3) := by decide +kernel
theorem dA_count_104 : decode cA_count 104 = .ok (.getfield 43, 3) := by decide +kernel
theorem dA_count_107 : decode cA_count 107 = .ok (.invokevirtual 96, 3) := by decide +kernel
theorem dA_count_110 : decode cA_count 110 = .ok (.aload_n 0, 1) := by decide +kernel
theorem dA_count_111 : decode cA_count 111 = .ok (.getfield 29, 3) := by decide +kernel
theorem dA_count_114 : decode cA_count 114 = .ok (.invokevirtual 103, 3) := by decide +kernel
theorem dA_count_117 : decode cA_count 117 = .ok (.ireturn, 1) := by decide +kernel
theorem dA_count_118 : decode cA_count 118 = .ok (.aload_n 0, 1) := by decide +kernel
theorem dA_count_119 : decode cA_count 119 = .ok (.getfield 10, 3) := by decide +kernel
theorem dA_count_122 : decode cA_count 122 = .ok (.invokevirtual 106, 3) := by decide +kernel
theorem dA_count_125 : decode cA_count 125 = .ok (.ireturn, 1) := by decide +kernel
theorem dA_count_126 : decode cA_count 126 = .ok (.aload_n 0, 1) := by decide +kernel
theorem dA_count_127 : decode cA_count 127 = .ok (.invokevirtual 109, 3) := by decide +kernel
theorem dA_count_130 : decode cA_count 130 = .ok (.ireturn, 1) := by decide +kernel
theorem dA_count_131 : decode cA_count 131 = .ok (.bipush (-2), 2) := by decide +kernel
theorem dA_count_133 : decode cA_count 133 = .ok (.ireturn, 1) := by decide +kernel
theorem tw_1_178 : (Jvm.Cond.instanceMethod ({ cls := "ActSurgery$Arrows", name := "howMany", desc := "()I" } : Jvm.MethodName)) ∈ x_GT := x_t1 178 rfl rfl
theorem tw_1_179 : (Jvm.Cond.selects "ActSurgery$Arrows" ({ cls := "ActSurgery$Arrows", name := "howMany", desc := "()I" } : Jvm.MethodName) ({ cls := "ActSurgery$Arrows", name := "howMany", desc := "()I" } : Jvm.MethodName)) ∈ x_GT := x_t1 179 rfl rfl
theorem tw_1_180 : (Jvm.Cond.code ({ cls := "ActSurgery$Arrows", name := "howMany", desc := "()I" } : Jvm.MethodName) prog_2_method_3_code (3 : Nat) (Option.some Jvm.ClassFile.FieldType.int)) ∈ x_GT := x_t1 180 rfl rfl
theorem tw_1_177 : (Jvm.Cond.methodLink "ActSurgery" (92 : Nat) ({ cls := "ActSurgery$Arrows", name := "howMany", desc := "()I" } : Jvm.MethodName)) ∈ x_GT := x_t1 177 rfl rfl
theorem kA_92 : x_kV "ActSurgery" 92 yR_howMany cR_howMany 3 (some .int) 0 1 := ⟨tw_1_178, tw_1_179, tw_1_180, tw_1_3, tw_1_177, (by decide +kernel), rfl⟩
theorem tw_1_188 : (Jvm.Cond.instanceMethod ({ cls := "ActSurgery$LikeGraphs", name := "find", desc := "(LActSurgery$Arrows;)V" } : Jvm.MethodName)) ∈ x_GT := x_t1 188 rfl rfl
theorem tw_1_189 : (Jvm.Cond.selects "ActSurgery$LikeGraphs" ({ cls := "ActSurgery$LikeGraphs", name := "find", desc := "(LActSurgery$Arrows;)V" } : Jvm.MethodName) ({ cls := "ActSurgery$LikeGraphs", name := "find", desc := "(LActSurgery$Arrows;)V" } : Jvm.MethodName)) ∈ x_GT := x_t1 189 rfl rfl
theorem tw_1_190 : (Jvm.Cond.code ({ cls := "ActSurgery$LikeGraphs", name := "find", desc := "(LActSurgery$Arrows;)V" } : Jvm.MethodName) prog_4_method_2_code (3 : Nat) (Option.none : Option Jvm.ClassFile.FieldType)) ∈ x_GT := x_t1 190 rfl rfl
theorem tw_1_187 : (Jvm.Cond.methodLink "ActSurgery" (96 : Nat) ({ cls := "ActSurgery$LikeGraphs", name := "find", desc := "(LActSurgery$Arrows;)V" } : Jvm.MethodName)) ∈ x_GT := x_t1 187 rfl rfl
theorem kA_96 : x_kV "ActSurgery" 96 yK_find cK_find 3 none 1 4 := ⟨tw_1_188, tw_1_189, tw_1_190, tw_1_4, tw_1_187, (by decide +kernel), rfl⟩
theorem tw_1_82 : (Jvm.Cond.fieldLink "ActSurgery" (100 : Nat) "ActSurgery$LikeGraphs" "found" "I") ∈ x_GT := x_t1 82 rfl rfl
theorem tw_1_222 : (Jvm.Cond.instanceMethod ({ cls := "ActSurgery$LikeGraphs", name := "howManySure", desc := "()I" } : Jvm.MethodName)) ∈ x_GT := x_t1 222 rfl rfl
theorem tw_1_223 : (Jvm.Cond.selects "ActSurgery$LikeGraphs" ({ cls := "ActSurgery$LikeGraphs", name := "howManySure", desc := "()I" } : Jvm.MethodName) ({ cls := "ActSurgery$LikeGraphs", name := "howManySure", desc := "()I" } : Jvm.MethodName)) ∈ x_GT := x_t1 223 rfl rfl
theorem tw_1_224 : (Jvm.Cond.code ({ cls := "ActSurgery$LikeGraphs", name := "howManySure", desc := "()I" } : Jvm.MethodName) prog_4_method_8_code (3 : Nat) (Option.some Jvm.ClassFile.FieldType.int)) ∈ x_GT := x_t1 224 rfl rfl
theorem tw_1_221 : (Jvm.Cond.methodLink "ActSurgery" (103 : Nat) ({ cls := "ActSurgery$LikeGraphs", name := "howManySure", desc := "()I" } : Jvm.MethodName)) ∈ x_GT := x_t1 221 rfl rfl
theorem kA_103 : x_kV "ActSurgery" 103 yK_howManySure cK_howManySure 3 (some .int) 0 4 := ⟨tw_1_222, tw_1_223, tw_1_224, tw_1_4, tw_1_221, (by decide +kernel), rfl⟩
theorem tw_1_227 : (Jvm.Cond.instanceMethod ({ cls := "ActSurgery$Graph", name := "howManyClumps", desc := "()I" } : Jvm.MethodName)) ∈ x_GT := x_t1 227 rfl rfl
theorem tw_1_228 : (Jvm.Cond.selects "ActSurgery$Graph" ({ cls := "ActSurgery$Graph", name := "howManyClumps", desc := "()I" } : Jvm.MethodName) ({ cls := "ActSurgery$Graph", name := "howManyClumps", desc := "()I" } : Jvm.MethodName)) ∈ x_GT := x_t1 228 rfl rfl
theorem tw_1_229 : (Jvm.Cond.code ({ cls := "ActSurgery$Graph", name := "howManyClumps", desc := "()I" } : Jvm.MethodName) prog_3_method_10_code (4 : Nat) (Option.some Jvm.ClassFile.FieldType.int)) ∈ x_GT := x_t1 229 rfl rfl
theorem tw_1_226 : (Jvm.Cond.methodLink "ActSurgery" (106 : Nat) ({ cls := "ActSurgery$Graph", name := "howManyClumps", desc := "()I" } : Jvm.MethodName)) ∈ x_GT := x_t1 226 rfl rfl
theorem kA_106 : x_kV "ActSurgery" 106 yG_howManyClumps cG_howManyClumps 4 (some .int) 0 2 := ⟨tw_1_227, tw_1_228, tw_1_229, tw_1_2, tw_1_226, (by decide +kernel), rfl⟩
theorem tw_2_5 : (Jvm.Cond.instanceMethod ({ cls := "ActSurgery", name := "howManyPairsParted", desc := "()I" } : Jvm.MethodName)) ∈ x_GT := x_t2 5 rfl rfl
theorem tws_7 : (Jvm.Cond.selects "ActSurgery" ({ cls := "ActSurgery", name := "howManyPairsParted", desc := "()I" } : Jvm.MethodName) ({ cls := "ActSurgery", name := "howManyPairsParted", desc := "()I" } : Jvm.MethodName)) ∈ x_GT := x_ts 7 rfl rfl
theorem tw_2_6 : (Jvm.Cond.code ({ cls := "ActSurgery", name := "howManyPairsParted", desc := "()I" } : Jvm.MethodName) prog_1_method_28_code (4 : Nat) (Option.some Jvm.ClassFile.FieldType.int)) ∈ x_GT := x_t2 6 rfl rfl
theorem tw_2_3 : (Jvm.Cond.methodLink "ActSurgery" (109 : Nat) ({ cls := "ActSurgery", name := "howManyPairsParted", desc := "()I" } : Jvm.MethodName)) ∈ x_GT := x_t2 3 rfl rfl
theorem kA_109 : x_kV "ActSurgery" 109 yA_howManyPairsParted cA_howManyPairsParted 4 (some .int) 0 0 := ⟨tw_2_5, tws_7, tw_2_6, tw_1_1, tw_2_3, (by decide +kernel), rfl⟩
def fA_count  (w : x_W) (v0 : Nat) (v1 : Int32) : Option (Int32 × x_W) :=
  if v1 = (0 : Int32) then
    (x_fr w v0 0 0).bind fun t2 =>
    (x_fr w t2 2 0).bind fun t3 =>
    (x_fi w t3 1 0).bind fun t4 =>
    some (t4, w)
  else
  if v1 = (1 : Int32) then
    (x_fr w v0 0 0).bind fun t6 =>
    (x_fr w t6 2 0).bind fun t7 =>
    (x_ob w t7 1).bind fun _ =>
    (fR_howMany w t7).bind fun t9 =>
    some (t9, w)
  else
  if v1 = (2 : Int32) then
    (x_fr w v0 0 0).bind fun t11 =>
    (x_fi w t11 2 2).bind fun t12 =>
    some (t12, w)
  else
  if v1 = (3 : Int32) then
    (x_fr w v0 0 3).bind fun t14 =>
    (x_fr w v0 0 0).bind fun t15 =>
    (x_fr w t15 2 0).bind fun t16 =>
    (x_ob w t14 4).bind fun _ =>
    (fK_find w t14 t16).bind fun w18 =>
    (x_fr w18 v0 0 3).bind fun t19 =>
    (x_fi w18 t19 4 5).bind fun t20 =>
    some (t20, w18)
  else
  if v1 = (4 : Int32) then
    (x_fr w v0 0 3).bind fun t22 =>
    (x_fr w v0 0 0).bind fun t23 =>
    (x_fr w t23 2 0).bind fun t24 =>
    (x_ob w t22 4).bind fun _ =>
    (fK_find w t22 t24).bind fun w26 =>
    (x_fr w26 v0 0 3).bind fun t27 =>
    (x_ob w26 t27 4).bind fun _ =>
    (fK_howManySure w26 t27).bind fun t29 =>
    some (t29, w26)
  else
  if v1 = (5 : Int32) then
    (x_fr w v0 0 0).bind fun t31 =>
    (x_ob w t31 2).bind fun _ =>
    (fG_howManyClumps w t31).bind fun t33 =>
    some (t33, w)
  else
  if v1 = (6 : Int32) then
    (x_ob w v0 0).bind fun _ =>
    (fA_howManyPairsParted w v0).bind fun t36 =>
    some (t36, w)
  else
    some ((-2 : Int32), w)
set_option maxHeartbeats 4000000 in
set_option maxRecDepth 100000 in
theorem mA_count (d : Nat) (hd : 15 ≤ d) {K : Option Value → x_W → Prop} {w : x_W} {v0 : Nat} {v1 : Int32} {r : (Int32 × x_W)} (h : fA_count w v0 v1 = some r) (hK : K (some (.int r.1)) r.2) : x_M yA_count cA_count 2 (some .int) d 0 0 [.ref v0, .int v1] w K := by
  refine x_M.of [some (.ref v0), some (.int v1)] (by decide) rfl (Nat.le_of_ble_eq_true rfl) ?_
  unfold fA_count at h
  refine g_iload_n 1 (i := 1) dA_count_0 rfl rfl rfl ?_
  by_cases c1 : v1 = (0 : Int32)
  · rw [if_pos c1] at h
    refine g_tabIn 44 (v := (0 : Int32)) dA_count_1 c1 (by decide) (by decide) rfl (by decide) ?_
    refine g_aload_n 45 (i := 0) dA_count_44 rfl rfl rfl ?_
    obtain ⟨t2, e2, h⟩ := x_bind h
    refine g_getfR 48 0 0 dA_count_45 rfl x_in0 tw_1_115 rfl (by decide) e2 ?_
    obtain ⟨t3, e3, h⟩ := x_bind h
    refine g_getfR 51 2 0 dA_count_48 rfl x_in2 tw_1_57 rfl (by decide) e3 ?_
    obtain ⟨t4, e4, h⟩ := x_bind h
    refine g_getfI 54 1 0 dA_count_51 rfl x_in1 tw_1_33 rfl (by decide) e4 ?_
    obtain rfl := Option.some.inj h
    exact g_iret rfl dA_count_54 hK
  · rw [if_neg c1] at h
    by_cases c5 : v1 = (1 : Int32)
    · rw [if_pos c5] at h
      refine g_tabIn 55 (v := (1 : Int32)) dA_count_1 c5 (by decide) (by decide) rfl (by decide) ?_
      refine g_aload_n 56 (i := 0) dA_count_55 rfl rfl rfl ?_
      obtain ⟨t6, e6, h⟩ := x_bind h
      refine g_getfR 59 0 0 dA_count_56 rfl x_in0 tw_1_115 rfl (by decide) e6 ?_
      obtain ⟨t7, e7, h⟩ := x_bind h
      refine g_getfR 62 2 0 dA_count_59 rfl x_in2 tw_1_57 rfl (by decide) e7 ?_
      obtain ⟨_, e8, h⟩ := x_bind h
      obtain ⟨t9, e9, h⟩ := x_bind h
      refine g_cV 65 (some (.int t9)) w [] [] dA_count_62 rfl (fun _ hK2 => mR_howMany (d - 1) (by omega) e9 hK2) (x_ob_some e8) kA_92 (x_rm (Nat.le_trans (by decide) hd) (by decide)) ⟨Nat.zero_le _, Nat.zero_le _⟩ (Nat.le_of_ble_eq_true rfl) rfl ?_
      obtain rfl := Option.some.inj h
      exact g_iret rfl dA_count_65 hK
    · rw [if_neg c5] at h
      by_cases c10 : v1 = (2 : Int32)
      · rw [if_pos c10] at h
        refine g_tabIn 66 (v := (2 : Int32)) dA_count_1 c10 (by decide) (by decide) rfl (by decide) ?_
        refine g_aload_n 67 (i := 0) dA_count_66 rfl rfl rfl ?_
        obtain ⟨t11, e11, h⟩ := x_bind h
        refine g_getfR 70 0 0 dA_count_67 rfl x_in0 tw_1_115 rfl (by decide) e11 ?_
        obtain ⟨t12, e12, h⟩ := x_bind h
        refine g_getfI 73 2 2 dA_count_70 rfl x_in2 tw_1_60 rfl (by decide) e12 ?_
        obtain rfl := Option.some.inj h
        exact g_iret rfl dA_count_73 hK
      · rw [if_neg c10] at h
        by_cases c13 : v1 = (3 : Int32)
        · rw [if_pos c13] at h
          refine g_tabIn 74 (v := (3 : Int32)) dA_count_1 c13 (by decide) (by decide) rfl (by decide) ?_
          refine g_aload_n 75 (i := 0) dA_count_74 rfl rfl rfl ?_
          obtain ⟨t14, e14, h⟩ := x_bind h
          refine g_getfR 78 0 3 dA_count_75 rfl x_in0 tw_1_118 rfl (by decide) e14 ?_
          refine g_aload_n 79 (i := 0) dA_count_78 rfl rfl rfl ?_
          obtain ⟨t15, e15, h⟩ := x_bind h
          refine g_getfR 82 0 0 dA_count_79 rfl x_in0 tw_1_115 rfl (by decide) e15 ?_
          obtain ⟨t16, e16, h⟩ := x_bind h
          refine g_getfR 85 2 0 dA_count_82 rfl x_in2 tw_1_57 rfl (by decide) e16 ?_
          obtain ⟨_, e17, h⟩ := x_bind h
          obtain ⟨w18, e18, h⟩ := x_bind h
          refine g_cV 88 none w18 [.ref t16] [] dA_count_85 rfl (fun _ hK2 => mK_find (d - 1) (by omega) e18 hK2) (x_ob_some e17) kA_96 (x_rm (Nat.le_trans (by decide) hd) (by decide)) ⟨Nat.zero_le _, Nat.zero_le _⟩ (Nat.le_of_ble_eq_true rfl) rfl ?_
          refine g_aload_n 89 (i := 0) dA_count_88 rfl rfl rfl ?_
          obtain ⟨t19, e19, h⟩ := x_bind h
          refine g_getfR 92 0 3 dA_count_89 rfl x_in0 tw_1_118 rfl (by decide) e19 ?_
          obtain ⟨t20, e20, h⟩ := x_bind h
          refine g_getfI 95 4 5 dA_count_92 rfl x_in4 tw_1_82 rfl (by decide) e20 ?_
          obtain rfl := Option.some.inj h
          exact g_iret rfl dA_count_95 hK
        · rw [if_neg c13] at h
          by_cases c21 : v1 = (4 : Int32)
          · rw [if_pos c21] at h
            refine g_tabIn 96 (v := (4 : Int32)) dA_count_1 c21 (by decide) (by decide) rfl (by decide) ?_
            refine g_aload_n 97 (i := 0) dA_count_96 rfl rfl rfl ?_
            obtain ⟨t22, e22, h⟩ := x_bind h
            refine g_getfR 100 0 3 dA_count_97 rfl x_in0 tw_1_118 rfl (by decide) e22 ?_
            refine g_aload_n 101 (i := 0) dA_count_100 rfl rfl rfl ?_
            obtain ⟨t23, e23, h⟩ := x_bind h
            refine g_getfR 104 0 0 dA_count_101 rfl x_in0 tw_1_115 rfl (by decide) e23 ?_
            obtain ⟨t24, e24, h⟩ := x_bind h
            refine g_getfR 107 2 0 dA_count_104 rfl x_in2 tw_1_57 rfl (by decide) e24 ?_
            obtain ⟨_, e25, h⟩ := x_bind h
            obtain ⟨w26, e26, h⟩ := x_bind h
            refine g_cV 110 none w26 [.ref t24] [] dA_count_107 rfl (fun _ hK2 => mK_find (d - 1) (by omega) e26 hK2) (x_ob_some e25) kA_96 (x_rm (Nat.le_trans (by decide) hd) (by decide)) ⟨Nat.zero_le _, Nat.zero_le _⟩ (Nat.le_of_ble_eq_true rfl) rfl ?_
            refine g_aload_n 111 (i := 0) dA_count_110 rfl rfl rfl ?_
            obtain ⟨t27, e27, h⟩ := x_bind h
            refine g_getfR 114 0 3 dA_count_111 rfl x_in0 tw_1_118 rfl (by decide) e27 ?_
            obtain ⟨_, e28, h⟩ := x_bind h
            obtain ⟨t29, e29, h⟩ := x_bind h
            refine g_cV 117 (some (.int t29)) w26 [] [] dA_count_114 rfl (fun _ hK2 => mK_howManySure (d - 1) (by omega) e29 hK2) (x_ob_some e28) kA_103 (x_rm (Nat.le_trans (by decide) hd) (by decide)) ⟨Nat.zero_le _, Nat.zero_le _⟩ (Nat.le_of_ble_eq_true rfl) rfl ?_
            obtain rfl := Option.some.inj h
            exact g_iret rfl dA_count_117 hK
          · rw [if_neg c21] at h
            by_cases c30 : v1 = (5 : Int32)
            · rw [if_pos c30] at h
              refine g_tabIn 118 (v := (5 : Int32)) dA_count_1 c30 (by decide) (by decide) rfl (by decide) ?_
              refine g_aload_n 119 (i := 0) dA_count_118 rfl rfl rfl ?_
              obtain ⟨t31, e31, h⟩ := x_bind h
              refine g_getfR 122 0 0 dA_count_119 rfl x_in0 tw_1_115 rfl (by decide) e31 ?_
              obtain ⟨_, e32, h⟩ := x_bind h
              obtain ⟨t33, e33, h⟩ := x_bind h
              refine g_cV 125 (some (.int t33)) w [] [] dA_count_122 rfl (fun _ hK2 => mG_howManyClumps (d - 1) (by omega) e33 hK2) (x_ob_some e32) kA_106 (x_rm (Nat.le_trans (by decide) hd) (by decide)) ⟨Nat.zero_le _, Nat.zero_le _⟩ (Nat.le_of_ble_eq_true rfl) rfl ?_
              obtain rfl := Option.some.inj h
              exact g_iret rfl dA_count_125 hK
            · rw [if_neg c30] at h
              by_cases c34 : v1 = (6 : Int32)
              · rw [if_pos c34] at h
                refine g_tabIn 126 (v := (6 : Int32)) dA_count_1 c34 (by decide) (by decide) rfl (by decide) ?_
                refine g_aload_n 127 (i := 0) dA_count_126 rfl rfl rfl ?_
                obtain ⟨_, e35, h⟩ := x_bind h
                obtain ⟨t36, e36, h⟩ := x_bind h
                refine g_cV 130 (some (.int t36)) w [] [] dA_count_127 rfl (fun _ hK2 => mA_howManyPairsParted (d - 1) (by omega) e36 hK2) (x_ob_some e35) kA_109 (x_rm (Nat.le_trans (by decide) hd) (by decide)) ⟨Nat.zero_le _, Nat.zero_le _⟩ (Nat.le_of_ble_eq_true rfl) rfl ?_
                obtain rfl := Option.some.inj h
                exact g_iret rfl dA_count_130 hK
              · rw [if_neg c34] at h
                have q1 := lv_neT (a := 0) c1 (by decide)
                have q5 := lv_neT (a := 1) c5 (by decide)
                have q10 := lv_neT (a := 2) c10 (by decide)
                have q13 := lv_neT (a := 3) c13 (by decide)
                have q21 := lv_neT (a := 4) c21 (by decide)
                have q30 := lv_neT (a := 5) c30 (by decide)
                have q34 := lv_neT (a := 6) c34 (by decide)
                refine g_tabOut 131 dA_count_1 (by omega) (by decide) ?_
                refine g_bipush 133 (-2 : Int32) dA_count_131 rfl (by decide) ?_
                obtain rfl := Option.some.inj h
                exact g_iret rfl dA_count_133 hK
/-! ActSurgery$Arrows.beforeOf(I)I: level P -/
theorem dR_beforeOf_0 : decode cR_beforeOf 0 = .ok (.aload_n 0, 1) := by decide +kernel
theorem dR_beforeOf_1 : decode cR_beforeOf 1 = .ok (.getfield 9, 3) := by decide +kernel
theorem dR_beforeOf_4 : decode cR_beforeOf 4 = .ok (.iload_n 1, 1) := by decide +kernel
theorem dR_beforeOf_5 : decode cR_beforeOf 5 = .ok (.iaload, 1) := by decide +kernel
theorem dR_beforeOf_6 : decode cR_beforeOf 6 = .ok (.istore_n 2, 1) := by decide +kernel
theorem dR_beforeOf_7 : decode cR_beforeOf 7 = .ok (.iload_n 1, 1) := by decide +kernel
theorem dR_beforeOf_8 : decode cR_beforeOf 8 = .ok (.iconst 1, 1) := by decide +kernel
theorem dR_beforeOf_9 : decode cR_beforeOf 9 = .ok (.isub, 1) := by decide +kernel
theorem dR_beforeOf_10 : decode cR_beforeOf 10 = .ok (.istore_n 3, 1) := by decide +kernel
theorem dR_beforeOf_11 : decode cR_beforeOf 11 = .ok (.iload_n 3, 1) := by decide +kernel
theorem dR_beforeOf_12 : decode cR_beforeOf 12 = .ok (.ifCond .lt 26, 3) := by decide +kernel
theorem dR_beforeOf_15 : decode cR_beforeOf 15 = .ok (.iload_n 2, 1) := by decide +kernel
theorem dR_beforeOf_16 : decode cR_beforeOf 16 = .ok (.iload_n 3, 1) := by decide +kernel
theorem dR_beforeOf_17 : decode cR_beforeOf 17 = .ok (.invokestatic 25, 3) := by decide +kernel
theorem dR_beforeOf_20 : decode cR_beforeOf 20 = .ok (.ifCond .eq 12, 3) := by decide +kernel
theorem dR_beforeOf_23 : decode cR_beforeOf 23 = .ok (.iload_n 2, 1) := by decide +kernel
theorem dR_beforeOf_24 : decode cR_beforeOf 24 = .ok (.aload_n 0, 1) := by decide +kernel
theorem dR_beforeOf_25 : decode cR_beforeOf 25 = .ok (.getfield 9, 3) := by decide +kernel
theorem dR_beforeOf_28 : decode cR_beforeOf 28 = .ok (.iload_n 3, 1) := by decide +kernel
theorem dR_beforeOf_29 : decode cR_beforeOf 29 = .ok (.iaload, 1) := by decide +kernel
theorem dR_beforeOf_30 : decode cR_beforeOf 30 = .ok (.ior, 1) := by decide +kernel
theorem dR_beforeOf_31 : decode cR_beforeOf 31 = .ok (.istore_n 2, 1) := by decide +kernel
theorem dR_beforeOf_32 : decode cR_beforeOf 32 = .ok (.iinc 3 (-1), 3) := by decide +kernel
theorem dR_beforeOf_35 : decode cR_beforeOf 35 = .ok (.goto (-24), 3) := by decide +kernel
theorem dR_beforeOf_38 : decode cR_beforeOf 38 = .ok (.iload_n 2, 1) := by decide +kernel
theorem dR_beforeOf_39 : decode cR_beforeOf 39 = .ok (.ireturn, 1) := by decide +kernel
def fR_beforeOf_11 (w : x_W) : Nat → Nat → Int32 → Int32 → Option Int32
  | 0, _, _, _ => none
  | n + 1, v0, v2, v3 =>
    if v3 < (0 : Int32) then
      some v2
    else
      if (fA_has v2 v3) = (0 : Int32) then
        fR_beforeOf_11 w n v0 v2 (v3 + (-1 : Int32))
      else
        (x_fr w v0 1 1).bind fun t3 =>
        (x_ai w t3 v3).bind fun t4 =>
        fR_beforeOf_11 w n v0 (v2 ||| t4) (v3 + (-1 : Int32))
def fR_beforeOf (w : x_W) (v0 : Nat) (v1 : Int32) : Option Int32 :=
  (x_fr w v0 1 1).bind fun t1 =>
  (x_ai w t1 v1).bind fun t2 =>
  fR_beforeOf_11 w x_F v0 t2 (v1 - (1 : Int32))
set_option maxHeartbeats 4000000 in
set_option maxRecDepth 100000 in
theorem lR_beforeOf_11 (d : Nat) (hd : 2 ≤ d) {K : Option Value → x_W → Prop} {r : Int32} {w : x_W} (hK : K (some (.int r)) w) : ∀ (n : Nat) (v0 : Nat) (v2 : Int32) (v3 : Int32), fR_beforeOf_11 w n v0 v2 v3 = some r → x_G none yR_beforeOf cR_beforeOf 4 (some .int) (x_room d 0 0) (x_QM K 0 0) 11 [some (.ref v0), none, some (.int v2), some (.int v3)] [] w 0 0 := by
  intro n
  induction n with
  | zero => intro v0 v2 v3 h; rw [fR_beforeOf_11] at h; cases h
  | succ n ih =>
    intro v0 v2 v3 h
    rw [fR_beforeOf_11] at h
    refine g_iload_n 12 (i := 3) dR_beforeOf_11 rfl rfl rfl ?_
    by_cases c1 : v3 < (0 : Int32)
    · rw [if_pos c1] at h
      refine g_if_lt_t 38 dR_beforeOf_12 (by decide) c1 ?_
      refine g_iload_n 39 (i := 2) dR_beforeOf_38 rfl rfl rfl ?_
      obtain rfl := Option.some.inj h
      exact g_iret rfl dR_beforeOf_39 hK
    · rw [if_neg c1] at h
      refine g_if_lt_f 15 38 dR_beforeOf_12 (by decide) rfl c1 ?_
      refine g_iload_n 16 (i := 2) dR_beforeOf_15 rfl rfl rfl ?_
      refine g_iload_n 17 (i := 3) dR_beforeOf_16 rfl rfl rfl ?_
      refine g_cSN 20 (some (.int (fA_has v2 v3))) w [.int v2, .int v3] [] dR_beforeOf_17 rfl (fun _ hK2 => mA_has (d - 1) (by omega) rfl hK2) kR_25 (x_rm (Nat.le_trans (by decide) hd) (by decide)) ⟨Nat.zero_le _, Nat.zero_le _⟩ (Nat.le_of_ble_eq_true rfl) rfl ?_
      by_cases c2 : (fA_has v2 v3) = (0 : Int32)
      · rw [if_pos c2] at h
        refine g_if_eq_t 32 dR_beforeOf_20 (by decide) c2 ?_
        refine g_iinc 35 [some (.ref v0), none, some (.int v2), some (.int (v3 + (-1 : Int32)))] dR_beforeOf_32 rfl rfl (x_inc (-1 : Int32) (by decide)) rfl (by decide) ?_
        refine g_goto 11 dR_beforeOf_35 (by decide) ?_
        exact ih _ _ _ h
      · rw [if_neg c2] at h
        refine g_if_eq_f 23 32 dR_beforeOf_20 (by decide) rfl c2 ?_
        refine g_iload_n 24 (i := 2) dR_beforeOf_23 rfl rfl rfl ?_
        refine g_aload_n 25 (i := 0) dR_beforeOf_24 rfl rfl rfl ?_
        obtain ⟨t3, e3, h⟩ := x_bind h
        refine g_getfR 28 1 1 dR_beforeOf_25 rfl x_in1 tw_1_34 rfl (by decide) e3 ?_
        refine g_iload_n 29 (i := 3) dR_beforeOf_28 rfl rfl rfl ?_
        obtain ⟨t4, e4, h⟩ := x_bind h
        refine g_iald 30 dR_beforeOf_29 rfl e4 ?_
        refine g_ior 31 dR_beforeOf_30 rfl ?_
        refine g_istore_n 32 (i := 2) [some (.ref v0), none, some (.int (v2 ||| t4)), some (.int v3)] dR_beforeOf_31 rfl rfl rfl (by decide) ?_
        refine g_iinc 35 [some (.ref v0), none, some (.int (v2 ||| t4)), some (.int (v3 + (-1 : Int32)))] dR_beforeOf_32 rfl rfl (x_inc (-1 : Int32) (by decide)) rfl (by decide) ?_
        refine g_goto 11 dR_beforeOf_35 (by decide) ?_
        exact ih _ _ _ h
set_option maxHeartbeats 4000000 in
set_option maxRecDepth 100000 in
theorem mR_beforeOf (d : Nat) (hd : 2 ≤ d) {K : Option Value → x_W → Prop} {w : x_W} {v0 : Nat} {v1 : Int32} {r : Int32} (h : fR_beforeOf w v0 v1 = some r) (hK : K (some (.int r)) w) : x_M yR_beforeOf cR_beforeOf 4 (some .int) d 0 0 [.ref v0, .int v1] w K := by
  refine x_M.of [some (.ref v0), some (.int v1), none, none] (by decide) rfl (Nat.le_of_ble_eq_true rfl) ?_
  unfold fR_beforeOf at h
  refine g_aload_n 1 (i := 0) dR_beforeOf_0 rfl rfl rfl ?_
  obtain ⟨t1, e1, h⟩ := x_bind h
  refine g_getfR 4 1 1 dR_beforeOf_1 rfl x_in1 tw_1_34 rfl (by decide) e1 ?_
  refine g_iload_n 5 (i := 1) dR_beforeOf_4 rfl rfl rfl ?_
  obtain ⟨t2, e2, h⟩ := x_bind h
  refine g_iald 6 dR_beforeOf_5 rfl e2 ?_
  refine g_istore_n 7 (i := 2) [some (.ref v0), some (.int v1), some (.int t2), none] dR_beforeOf_6 rfl rfl rfl (by decide) ?_
  refine g_iload_n 8 (i := 1) dR_beforeOf_7 rfl rfl rfl ?_
  refine g_iconst 9 (1 : Int32) dR_beforeOf_8 rfl (by decide) ?_
  refine g_isub 10 dR_beforeOf_9 rfl ?_
  refine g_istore_n 11 (i := 3) [some (.ref v0), some (.int v1), some (.int t2), some (.int (v1 - (1 : Int32)))] dR_beforeOf_10 rfl rfl rfl (by decide) ?_
  refine g_less [some (.ref v0), none, some (.int t2), some (.int (v1 - (1 : Int32)))] ⟨rfl, rfl, rfl, trivial⟩ ?_
  exact lR_beforeOf_11 d hd hK x_F _ _ _ h
/-! ActSurgery$LikeGraphs.sureFrom(I)I: level P -/
theorem dK_sureFrom_0 : decode cK_sureFrom 0 = .ok (.iconst 0, 1) := by decide +kernel
theorem dK_sureFrom_1 : decode cK_sureFrom 1 = .ok (.istore_n 2, 1) := by decide +kernel
theorem dK_sureFrom_2 : decode cK_sureFrom 2 = .ok (.iconst 0, 1) := by decide +kernel
theorem dK_sureFrom_3 : decode cK_sureFrom 3 = .ok (.istore_n 3, 1) := by decide +kernel
theorem dK_sureFrom_4 : decode cK_sureFrom 4 = .ok (.iload_n 3, 1) := by decide +kernel
theorem dK_sureFrom_5 : decode cK_sureFrom 5 = .ok (.aload_n 0, 1) := by decide +kernel
theorem dK_sureFrom_6 : decode cK_sureFrom 6 = .ok (.getfield 30, 3) := by decide +kernel
theorem dK_sureFrom_9 : decode cK_sureFrom 9 = .ok (.if_icmp .ge 28, 3) := by decide +kernel
theorem dK_sureFrom_12 : decode cK_sureFrom 12 = .ok (.aload_n 0, 1) := by decide +kernel
theorem dK_sureFrom_13 : decode cK_sureFrom 13 = .ok (.getfield 21, 3) := by decide +kernel
theorem dK_sureFrom_16 : decode cK_sureFrom 16 = .ok (.iload_n 3, 1) := by decide +kernel
theorem dK_sureFrom_17 : decode cK_sureFrom 17 = .ok (.iaload, 1) := by decide +kernel
theorem dK_sureFrom_18 : decode cK_sureFrom 18 = .ok (.iload_n 1, 1) := by decide +kernel
theorem dK_sureFrom_19 : decode cK_sureFrom 19 = .ok (.invokestatic 48, 3) := by decide +kernel
theorem dK_sureFrom_22 : decode cK_sureFrom 22 = .ok (.ifCond .eq 9, 3) := by decide +kernel
theorem dK_sureFrom_25 : decode cK_sureFrom 25 = .ok (.iload_n 2, 1) := by decide +kernel
theorem dK_sureFrom_26 : decode cK_sureFrom 26 = .ok (.iconst 1, 1) := by decide +kernel
theorem dK_sureFrom_27 : decode cK_sureFrom 27 = .ok (.iload_n 3, 1) := by decide +kernel
theorem dK_sureFrom_28 : decode cK_sureFrom 28 = .ok (.ishl, 1) := by decide +kernel
theorem dK_sureFrom_29 : decode cK_sureFrom 29 = .ok (.ior, 1) := by decide +kernel
theorem dK_sureFrom_30 : decode cK_sureFrom 30 = .ok (.istore_n 2, 1) := by decide +kernel
theorem dK_sureFrom_31 : decode cK_sureFrom 31 = .ok (.iinc 3 1, 3) := by decide +kernel
theorem dK_sureFrom_34 : decode cK_sureFrom 34 = .ok (.goto (-30), 3) := by decide +kernel
theorem dK_sureFrom_37 : decode cK_sureFrom 37 = .ok (.iload_n 2, 1) := by decide +kernel
theorem dK_sureFrom_38 : decode cK_sureFrom 38 = .ok (.ireturn, 1) := by decide +kernel
def fK_sureFrom_4 (w : x_W) : Nat → Nat → Int32 → Int32 → Int32 → Option Int32
  | 0, _, _, _, _ => none
  | n + 1, v0, v1, v2, v3 =>
    (x_fi w v0 4 4).bind fun t1 =>
    if t1 ≤ v3 then
      some v2
    else
      (x_fr w v0 4 3).bind fun t3 =>
      (x_ai w t3 v3).bind fun t4 =>
      if (fA_has t4 v1) = (0 : Int32) then
        fK_sureFrom_4 w n v0 v1 v2 (v3 + (1 : Int32))
      else
        fK_sureFrom_4 w n v0 v1 (v2 ||| ((1 : Int32) <<< (v3 &&& 31))) (v3 + (1 : Int32))
def fK_sureFrom (w : x_W) (v0 : Nat) (v1 : Int32) : Option Int32 :=
  fK_sureFrom_4 w x_F v0 v1 (0 : Int32) (0 : Int32)
set_option maxHeartbeats 4000000 in
set_option maxRecDepth 100000 in
theorem lK_sureFrom_4 (d : Nat) (hd : 2 ≤ d) {K : Option Value → x_W → Prop} {r : Int32} {w : x_W} (hK : K (some (.int r)) w) : ∀ (n : Nat) (v0 : Nat) (v1 : Int32) (v2 : Int32) (v3 : Int32), fK_sureFrom_4 w n v0 v1 v2 v3 = some r → x_G none yK_sureFrom cK_sureFrom 4 (some .int) (x_room d 0 0) (x_QM K 0 0) 4 [some (.ref v0), some (.int v1), some (.int v2), some (.int v3)] [] w 0 0 := by
  intro n
  induction n with
  | zero => intro v0 v1 v2 v3 h; rw [fK_sureFrom_4] at h; cases h
  | succ n ih =>
    intro v0 v1 v2 v3 h
    rw [fK_sureFrom_4] at h
    refine g_iload_n 5 (i := 3) dK_sureFrom_4 rfl rfl rfl ?_
    refine g_aload_n 6 (i := 0) dK_sureFrom_5 rfl rfl rfl ?_
    obtain ⟨t1, e1, h⟩ := x_bind h
    refine g_getfI 9 4 4 dK_sureFrom_6 rfl x_in4 tw_1_80 rfl (by decide) e1 ?_
    by_cases c2 : t1 ≤ v3
    · rw [if_pos c2] at h
      refine g_icmp_ge_t 37 dK_sureFrom_9 (by decide) c2 ?_
      refine g_iload_n 38 (i := 2) dK_sureFrom_37 rfl rfl rfl ?_
      obtain rfl := Option.some.inj h
      exact g_iret rfl dK_sureFrom_38 hK
    · rw [if_neg c2] at h
      refine g_icmp_ge_f 12 37 dK_sureFrom_9 (by decide) rfl c2 ?_
      refine g_aload_n 13 (i := 0) dK_sureFrom_12 rfl rfl rfl ?_
      obtain ⟨t3, e3, h⟩ := x_bind h
      refine g_getfR 16 4 3 dK_sureFrom_13 rfl x_in4 tw_1_79 rfl (by decide) e3 ?_
      refine g_iload_n 17 (i := 3) dK_sureFrom_16 rfl rfl rfl ?_
      obtain ⟨t4, e4, h⟩ := x_bind h
      refine g_iald 18 dK_sureFrom_17 rfl e4 ?_
      refine g_iload_n 19 (i := 1) dK_sureFrom_18 rfl rfl rfl ?_
      refine g_cSN 22 (some (.int (fA_has t4 v1))) w [.int t4, .int v1] [] dK_sureFrom_19 rfl (fun _ hK2 => mA_has (d - 1) (by omega) rfl hK2) kK_48 (x_rm (Nat.le_trans (by decide) hd) (by decide)) ⟨Nat.zero_le _, Nat.zero_le _⟩ (Nat.le_of_ble_eq_true rfl) rfl ?_
      by_cases c5 : (fA_has t4 v1) = (0 : Int32)
      · rw [if_pos c5] at h
        refine g_if_eq_t 31 dK_sureFrom_22 (by decide) c5 ?_
        refine g_iinc 34 [some (.ref v0), some (.int v1), some (.int v2), some (.int (v3 + (1 : Int32)))] dK_sureFrom_31 rfl rfl (x_inc (1 : Int32) (by decide)) rfl (by decide) ?_
        refine g_goto 4 dK_sureFrom_34 (by decide) ?_
        exact ih _ _ _ _ h
      · rw [if_neg c5] at h
        refine g_if_eq_f 25 31 dK_sureFrom_22 (by decide) rfl c5 ?_
        refine g_iload_n 26 (i := 2) dK_sureFrom_25 rfl rfl rfl ?_
        refine g_iconst 27 (1 : Int32) dK_sureFrom_26 rfl (by decide) ?_
        refine g_iload_n 28 (i := 3) dK_sureFrom_27 rfl rfl rfl ?_
        refine g_ishl 29 dK_sureFrom_28 rfl ?_
        refine g_ior 30 dK_sureFrom_29 rfl ?_
        refine g_istore_n 31 (i := 2) [some (.ref v0), some (.int v1), some (.int (v2 ||| ((1 : Int32) <<< (v3 &&& 31)))), some (.int v3)] dK_sureFrom_30 rfl rfl rfl (by decide) ?_
        refine g_iinc 34 [some (.ref v0), some (.int v1), some (.int (v2 ||| ((1 : Int32) <<< (v3 &&& 31)))), some (.int (v3 + (1 : Int32)))] dK_sureFrom_31 rfl rfl (x_inc (1 : Int32) (by decide)) rfl (by decide) ?_
        refine g_goto 4 dK_sureFrom_34 (by decide) ?_
        exact ih _ _ _ _ h
set_option maxHeartbeats 4000000 in
set_option maxRecDepth 100000 in
theorem mK_sureFrom (d : Nat) (hd : 2 ≤ d) {K : Option Value → x_W → Prop} {w : x_W} {v0 : Nat} {v1 : Int32} {r : Int32} (h : fK_sureFrom w v0 v1 = some r) (hK : K (some (.int r)) w) : x_M yK_sureFrom cK_sureFrom 4 (some .int) d 0 0 [.ref v0, .int v1] w K := by
  refine x_M.of [some (.ref v0), some (.int v1), none, none] (by decide) rfl (Nat.le_of_ble_eq_true rfl) ?_
  unfold fK_sureFrom at h
  refine g_iconst 1 (0 : Int32) dK_sureFrom_0 rfl (by decide) ?_
  refine g_istore_n 2 (i := 2) [some (.ref v0), some (.int v1), some (.int (0 : Int32)), none] dK_sureFrom_1 rfl rfl rfl (by decide) ?_
  refine g_iconst 3 (0 : Int32) dK_sureFrom_2 rfl (by decide) ?_
  refine g_istore_n 4 (i := 3) [some (.ref v0), some (.int v1), some (.int (0 : Int32)), some (.int (0 : Int32))] dK_sureFrom_3 rfl rfl rfl (by decide) ?_
  exact lK_sureFrom_4 d hd hK x_F _ _ _ _ h
