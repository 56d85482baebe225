/-! ActSurgery$Arrows.afterOf(I)I: level P -/
theorem dR_afterOf_0 : decode cR_afterOf 0 = .ok (.iconst 0, 1) := by decide +kernel
theorem dR_afterOf_1 : decode cR_afterOf 1 = .ok (.istore_n 2, 1) := by decide +kernel
theorem dR_afterOf_2 : decode cR_afterOf 2 = .ok (.iload_n 1, 1) := by decide +kernel
theorem dR_afterOf_3 : decode cR_afterOf 3 = .ok (.iconst 1, 1) := by decide +kernel
theorem dR_afterOf_4 : decode cR_afterOf 4 = .ok (.iadd, 1) := by decide +kernel
theorem dR_afterOf_5 : decode cR_afterOf 5 = .ok (.istore_n 3, 1) := by decide +kernel
theorem dR_afterOf_6 : decode cR_afterOf 6 = .ok (.iload_n 3, 1) := by decide +kernel
theorem dR_afterOf_7 : decode cR_afterOf 7 = .ok (.aload_n 0, 1) := by decide +kernel
theorem dR_afterOf_8 : decode cR_afterOf 8 = .ok (.getfield 15, 3) := by decide +kernel
theorem dR_afterOf_11 : decode cR_afterOf 11 = .ok (.if_icmp .ge 30, 3) := by decide +kernel
theorem dR_afterOf_14 : decode cR_afterOf 14 = .ok (.aload_n 0, 1) := by decide +kernel
theorem dR_afterOf_15 : decode cR_afterOf 15 = .ok (.getfield 9, 3) := by decide +kernel
theorem dR_afterOf_18 : decode cR_afterOf 18 = .ok (.iload_n 3, 1) := by decide +kernel
theorem dR_afterOf_19 : decode cR_afterOf 19 = .ok (.iaload, 1) := by decide +kernel
theorem dR_afterOf_20 : decode cR_afterOf 20 = .ok (.iload_n 2, 1) := by decide +kernel
theorem dR_afterOf_21 : decode cR_afterOf 21 = .ok (.iconst 1, 1) := by decide +kernel
theorem dR_afterOf_22 : decode cR_afterOf 22 = .ok (.iload_n 1, 1) := by decide +kernel
theorem dR_afterOf_23 : decode cR_afterOf 23 = .ok (.ishl, 1) := by decide +kernel
theorem dR_afterOf_24 : decode cR_afterOf 24 = .ok (.ior, 1) := by decide +kernel
theorem dR_afterOf_25 : decode cR_afterOf 25 = .ok (.iand, 1) := by decide +kernel
theorem dR_afterOf_26 : decode cR_afterOf 26 = .ok (.ifCond .eq 9, 3) := by decide +kernel
theorem dR_afterOf_29 : decode cR_afterOf 29 = .ok (.iload_n 2, 1) := by decide +kernel
theorem dR_afterOf_30 : decode cR_afterOf 30 = .ok (.iconst 1, 1) := by decide +kernel
theorem dR_afterOf_31 : decode cR_afterOf 31 = .ok (.iload_n 3, 1) := by decide +kernel
theorem dR_afterOf_32 : decode cR_afterOf 32 = .ok (.ishl, 1) := by decide +kernel
theorem dR_afterOf_33 : decode cR_afterOf 33 = .ok (.ior, 1) := by decide +kernel
theorem dR_afterOf_34 : decode cR_afterOf 34 = .ok (.istore_n 2, 1) := by decide +kernel
theorem dR_afterOf_35 : decode cR_afterOf 35 = .ok (.iinc 3 1, 3) := by decide +kernel
theorem dR_afterOf_38 : decode cR_afterOf 38 = .ok (.goto (-32), 3) := by decide +kernel
theorem dR_afterOf_41 : decode cR_afterOf 41 = .ok (.iload_n 2, 1) := by decide +kernel
theorem dR_afterOf_42 : decode cR_afterOf 42 = .ok (.ireturn, 1) := by decide +kernel
theorem tw_1_31 : (Jvm.Cond.fieldLink "ActSurgery$Arrows" (15 : Nat) "ActSurgery$Arrows" "size" "I") ∈ x_GT := x_t1 31 rfl rfl
def fR_afterOf_6 (w : x_W) : Nat → Nat → Int32 → Int32 → Int32 → Option Int32
  | 0, _, _, _, _ => none
  | n + 1, v0, v1, v2, v3 =>
    (x_fi w v0 1 0).bind fun t1 =>
    if t1 ≤ v3 then
      some v2
    else
      (x_fr w v0 1 1).bind fun t3 =>
      (x_ai w t3 v3).bind fun t4 =>
      if (t4 &&& (v2 ||| ((1 : Int32) <<< (v1 &&& 31)))) = (0 : Int32) then
        fR_afterOf_6 w n v0 v1 v2 (v3 + (1 : Int32))
      else
        fR_afterOf_6 w n v0 v1 (v2 ||| ((1 : Int32) <<< (v3 &&& 31))) (v3 + (1 : Int32))
def fR_afterOf (w : x_W) (v0 : Nat) (v1 : Int32) : Option Int32 :=
  fR_afterOf_6 w x_F v0 v1 (0 : Int32) (v1 + (1 : Int32))
set_option maxHeartbeats 4000000 in
set_option maxRecDepth 100000 in
theorem lR_afterOf_6 (d : Nat) (hd : 1 ≤ d) {K : Option Value → x_W → Prop} {r : Int32} {w : x_W} (hK : K (some (.int r)) w) : ∀ (n : Nat) (v0 : Nat) (v1 : Int32) (v2 : Int32) (v3 : Int32), fR_afterOf_6 w n v0 v1 v2 v3 = some r → x_G none yR_afterOf cR_afterOf 4 (some .int) (x_room d 0 0) (x_QM K 0 0) 6 [some (.ref v0), some (.int v1), some (.int v2), some (.int v3)] [] w 0 0 := by
  intro n
  induction n with
  | zero => intro v0 v1 v2 v3 h; rw [fR_afterOf_6] at h; cases h
  | succ n ih =>
    intro v0 v1 v2 v3 h
    rw [fR_afterOf_6] at h
    refine g_iload_n 7 (i := 3) dR_afterOf_6 rfl rfl rfl ?_
    refine g_aload_n 8 (i := 0) dR_afterOf_7 rfl rfl rfl ?_
    obtain ⟨t1, e1, h⟩ := x_bind h
    refine g_getfI 11 1 0 dR_afterOf_8 rfl x_in1 tw_1_31 rfl (by decide) e1 ?_
    by_cases c2 : t1 ≤ v3
    · rw [if_pos c2] at h
      refine g_icmp_ge_t 41 dR_afterOf_11 (by decide) c2 ?_
      refine g_iload_n 42 (i := 2) dR_afterOf_41 rfl rfl rfl ?_
      obtain rfl := Option.some.inj h
      exact g_iret rfl dR_afterOf_42 hK
    · rw [if_neg c2] at h
      refine g_icmp_ge_f 14 41 dR_afterOf_11 (by decide) rfl c2 ?_
      refine g_aload_n 15 (i := 0) dR_afterOf_14 rfl rfl rfl ?_
      obtain ⟨t3, e3, h⟩ := x_bind h
      refine g_getfR 18 1 1 dR_afterOf_15 rfl x_in1 tw_1_34 rfl (by decide) e3 ?_
      refine g_iload_n 19 (i := 3) dR_afterOf_18 rfl rfl rfl ?_
      obtain ⟨t4, e4, h⟩ := x_bind h
      refine g_iald 20 dR_afterOf_19 rfl e4 ?_
      refine g_iload_n 21 (i := 2) dR_afterOf_20 rfl rfl rfl ?_
      refine g_iconst 22 (1 : Int32) dR_afterOf_21 rfl (by decide) ?_
      refine g_iload_n 23 (i := 1) dR_afterOf_22 rfl rfl rfl ?_
      refine g_ishl 24 dR_afterOf_23 rfl ?_
      refine g_ior 25 dR_afterOf_24 rfl ?_
      refine g_iand 26 dR_afterOf_25 rfl ?_
      by_cases c5 : (t4 &&& (v2 ||| ((1 : Int32) <<< (v1 &&& 31)))) = (0 : Int32)
      · rw [if_pos c5] at h
        refine g_if_eq_t 35 dR_afterOf_26 (by decide) c5 ?_
        refine g_iinc 38 [some (.ref v0), some (.int v1), some (.int v2), some (.int (v3 + (1 : Int32)))] dR_afterOf_35 rfl rfl (x_inc (1 : Int32) (by decide)) rfl (by decide) ?_
        refine g_goto 6 dR_afterOf_38 (by decide) ?_
        exact ih _ _ _ _ h
      · rw [if_neg c5] at h
        refine g_if_eq_f 29 35 dR_afterOf_26 (by decide) rfl c5 ?_
        refine g_iload_n 30 (i := 2) dR_afterOf_29 rfl rfl rfl ?_
        refine g_iconst 31 (1 : Int32) dR_afterOf_30 rfl (by decide) ?_
        refine g_iload_n 32 (i := 3) dR_afterOf_31 rfl rfl rfl ?_
        refine g_ishl 33 dR_afterOf_32 rfl ?_
        refine g_ior 34 dR_afterOf_33 rfl ?_
        refine g_istore_n 35 (i := 2) [some (.ref v0), some (.int v1), some (.int (v2 ||| ((1 : Int32) <<< (v3 &&& 31)))), some (.int v3)] dR_afterOf_34 rfl rfl rfl (by decide) ?_
        refine g_iinc 38 [some (.ref v0), some (.int v1), some (.int (v2 ||| ((1 : Int32) <<< (v3 &&& 31)))), some (.int (v3 + (1 : Int32)))] dR_afterOf_35 rfl rfl (x_inc (1 : Int32) (by decide)) rfl (by decide) ?_
        refine g_goto 6 dR_afterOf_38 (by decide) ?_
        exact ih _ _ _ _ h
set_option maxHeartbeats 4000000 in
set_option maxRecDepth 100000 in
theorem mR_afterOf (d : Nat) (hd : 1 ≤ d) {K : Option Value → x_W → Prop} {w : x_W} {v0 : Nat} {v1 : Int32} {r : Int32} (h : fR_afterOf w v0 v1 = some r) (hK : K (some (.int r)) w) : x_M yR_afterOf cR_afterOf 4 (some .int) d 0 0 [.ref v0, .int v1] w K := by
  refine x_M.of [some (.ref v0), some (.int v1), none, none] (by decide) rfl (Nat.le_of_ble_eq_true rfl) ?_
  unfold fR_afterOf at h
  refine g_iconst 1 (0 : Int32) dR_afterOf_0 rfl (by decide) ?_
  refine g_istore_n 2 (i := 2) [some (.ref v0), some (.int v1), some (.int (0 : Int32)), none] dR_afterOf_1 rfl rfl rfl (by decide) ?_
  refine g_iload_n 3 (i := 1) dR_afterOf_2 rfl rfl rfl ?_
  refine g_iconst 4 (1 : Int32) dR_afterOf_3 rfl (by decide) ?_
  refine g_iadd 5 dR_afterOf_4 rfl ?_
  refine g_istore_n 6 (i := 3) [some (.ref v0), some (.int v1), some (.int (0 : Int32)), some (.int (v1 + (1 : Int32)))] dR_afterOf_5 rfl rfl rfl (by decide) ?_
  exact lR_afterOf_6 d hd hK x_F _ _ _ _ h
/-! ActSurgery$Arrows.isOpenAt(IIII)Z: level P -/
theorem dR_isOpenAt_0 : decode cR_isOpenAt 0 = .ok (.iload_n 1, 1) := by decide +kernel
theorem dR_isOpenAt_1 : decode cR_isOpenAt 1 = .ok (.iconst (-1), 1) := by decide +kernel
theorem dR_isOpenAt_2 : decode cR_isOpenAt 2 = .ok (.if_icmp .ne 5, 3) := by decide +kernel
theorem dR_isOpenAt_5 : decode cR_isOpenAt 5 = .ok (.iconst 1, 1) := by decide +kernel
theorem dR_isOpenAt_6 : decode cR_isOpenAt 6 = .ok (.ireturn, 1) := by decide +kernel
theorem dR_isOpenAt_7 : decode cR_isOpenAt 7 = .ok (.aload_n 0, 1) := by decide +kernel
theorem dR_isOpenAt_8 : decode cR_isOpenAt 8 = .ok (.getfield 9, 3) := by decide +kernel
theorem dR_isOpenAt_11 : decode cR_isOpenAt 11 = .ok (.iload_n 2, 1) := by decide +kernel
theorem dR_isOpenAt_12 : decode cR_isOpenAt 12 = .ok (.iaload, 1) := by decide +kernel
theorem dR_isOpenAt_13 : decode cR_isOpenAt 13 = .ok (.iload_n 1, 1) := by decide +kernel
theorem dR_isOpenAt_14 : decode cR_isOpenAt 14 = .ok (.invokestatic 25, 3) := by decide +kernel
theorem dR_isOpenAt_17 : decode cR_isOpenAt 17 = .ok (.ifCond .eq 37, 3) := by decide +kernel
theorem dR_isOpenAt_20 : decode cR_isOpenAt 20 = .ok (.aload_n 0, 1) := by decide +kernel
theorem dR_isOpenAt_21 : decode cR_isOpenAt 21 = .ok (.getfield 9, 3) := by decide +kernel
theorem dR_isOpenAt_24 : decode cR_isOpenAt 24 = .ok (.iload_n 2, 1) := by decide +kernel
theorem dR_isOpenAt_25 : decode cR_isOpenAt 25 = .ok (.iaload, 1) := by decide +kernel
theorem dR_isOpenAt_26 : decode cR_isOpenAt 26 = .ok (.iload_n 3, 1) := by decide +kernel
theorem dR_isOpenAt_27 : decode cR_isOpenAt 27 = .ok (.invokestatic 25, 3) := by decide +kernel
theorem dR_isOpenAt_30 : decode cR_isOpenAt 30 = .ok (.ifCond .eq 24, 3) := by decide +kernel
theorem dR_isOpenAt_33 : decode cR_isOpenAt 33 = .ok (.iload 4, 2) := by decide +kernel
theorem dR_isOpenAt_35 : decode cR_isOpenAt 35 = .ok (.iconst 1, 1) := by decide +kernel
theorem dR_isOpenAt_36 : decode cR_isOpenAt 36 = .ok (.iload_n 2, 1) := by decide +kernel
theorem dR_isOpenAt_37 : decode cR_isOpenAt 37 = .ok (.ishl, 1) := by decide +kernel
theorem dR_isOpenAt_38 : decode cR_isOpenAt 38 = .ok (.aload_n 0, 1) := by decide +kernel
theorem dR_isOpenAt_39 : decode cR_isOpenAt 39 = .ok (.iload_n 2, 1) := by decide +kernel
theorem dR_isOpenAt_40 : decode cR_isOpenAt 40 = .ok (.invokevirtual 43, 3) := by decide +kernel
theorem dR_isOpenAt_43 : decode cR_isOpenAt 43 = .ok (.ior, 1) := by decide +kernel
theorem dR_isOpenAt_44 : decode cR_isOpenAt 44 = .ok (.iand, 1) := by decide +kernel
theorem dR_isOpenAt_45 : decode cR_isOpenAt 45 = .ok (.ifCond .eq 7, 3) := by decide +kernel
theorem dR_isOpenAt_48 : decode cR_isOpenAt 48 = .ok (.iconst 1, 1) := by decide +kernel
theorem dR_isOpenAt_49 : decode cR_isOpenAt 49 = .ok (.goto 4, 3) := by decide +kernel
theorem dR_isOpenAt_52 : decode cR_isOpenAt 52 = .ok (.iconst 0, 1) := by decide +kernel
theorem dR_isOpenAt_53 : decode cR_isOpenAt 53 = .ok (.ireturn, 1) := by decide +kernel
theorem dR_isOpenAt_54 : decode cR_isOpenAt 54 = .ok (.iload 4, 2) := by decide +kernel
theorem dR_isOpenAt_56 : decode cR_isOpenAt 56 = .ok (.iload_n 2, 1) := by decide +kernel
theorem dR_isOpenAt_57 : decode cR_isOpenAt 57 = .ok (.invokestatic 25, 3) := by decide +kernel
theorem dR_isOpenAt_60 : decode cR_isOpenAt 60 = .ok (.ifCond .ne 7, 3) := by decide +kernel
theorem dR_isOpenAt_63 : decode cR_isOpenAt 63 = .ok (.iconst 1, 1) := by decide +kernel
theorem dR_isOpenAt_64 : decode cR_isOpenAt 64 = .ok (.goto 4, 3) := by decide +kernel
theorem dR_isOpenAt_67 : decode cR_isOpenAt 67 = .ok (.iconst 0, 1) := by decide +kernel
theorem dR_isOpenAt_68 : decode cR_isOpenAt 68 = .ok (.ireturn, 1) := by decide +kernel
theorem tw_2_36 : (Jvm.Cond.instanceMethod ({ cls := "ActSurgery$Arrows", name := "afterOf", desc := "(I)I" } : Jvm.MethodName)) ∈ x_GT := x_t2 36 rfl rfl
theorem tw_2_37 : (Jvm.Cond.selects "ActSurgery$Arrows" ({ cls := "ActSurgery$Arrows", name := "afterOf", desc := "(I)I" } : Jvm.MethodName) ({ cls := "ActSurgery$Arrows", name := "afterOf", desc := "(I)I" } : Jvm.MethodName)) ∈ x_GT := x_t2 37 rfl rfl
theorem tw_2_38 : (Jvm.Cond.code ({ cls := "ActSurgery$Arrows", name := "afterOf", desc := "(I)I" } : Jvm.MethodName) prog_2_method_6_code (4 : Nat) (Option.some Jvm.ClassFile.FieldType.int)) ∈ x_GT := x_t2 38 rfl rfl
theorem tw_2_35 : (Jvm.Cond.methodLink "ActSurgery$Arrows" (43 : Nat) ({ cls := "ActSurgery$Arrows", name := "afterOf", desc := "(I)I" } : Jvm.MethodName)) ∈ x_GT := x_t2 35 rfl rfl
theorem kR_43 : x_kV "ActSurgery$Arrows" 43 yR_afterOf cR_afterOf 4 (some .int) 1 1 := ⟨tw_2_36, tw_2_37, tw_2_38, tw_1_3, tw_2_35, (by decide +kernel), rfl⟩
def fR_isOpenAt (w : x_W) (v0 : Nat) (v1 : Int32) (v2 : Int32) (v3 : Int32) (v4 : Int32) : Option Int32 :=
  if v1 = (-1 : Int32) then
    some (1 : Int32)
  else
    (x_fr w v0 1 1).bind fun t2 =>
    (x_ai w t2 v2).bind fun t3 =>
    if (fA_has t3 v1) = (0 : Int32) then
      if (fA_has v4 v2) = (0 : Int32) then
        some (1 : Int32)
      else
        some (0 : Int32)
    else
      if (fA_has t3 v3) = (0 : Int32) then
        if (fA_has v4 v2) = (0 : Int32) then
          some (1 : Int32)
        else
          some (0 : Int32)
      else
        (fR_afterOf w v0 v2).bind fun t8 =>
        if (v4 &&& (((1 : Int32) <<< (v2 &&& 31)) ||| t8)) = (0 : Int32) then
          some (0 : Int32)
        else
          some (1 : Int32)
set_option maxHeartbeats 4000000 in
set_option maxRecDepth 100000 in
theorem mR_isOpenAt (d : Nat) (hd : 2 ≤ d) {K : Option Value → x_W → Prop} {w : x_W} {v0 : Nat} {v1 : Int32} {v2 : Int32} {v3 : Int32} {v4 : Int32} {r : Int32} (h : fR_isOpenAt w v0 v1 v2 v3 v4 = some r) (hK : K (some (.int r)) w) : x_M yR_isOpenAt cR_isOpenAt 5 (some .boolean) d 0 0 [.ref v0, .int v1, .int v2, .int v3, .int v4] w K := by
  refine x_M.of [some (.ref v0), some (.int v1), some (.int v2), some (.int v3), some (.int v4)] (by decide) rfl (Nat.le_of_ble_eq_true rfl) ?_
  unfold fR_isOpenAt at h
  refine g_iload_n 1 (i := 1) dR_isOpenAt_0 rfl rfl rfl ?_
  refine g_iconst 2 (-1 : Int32) dR_isOpenAt_1 rfl (by decide) ?_
  by_cases c1 : v1 = (-1 : Int32)
  · rw [if_pos c1] at h
    refine g_icmp_ne_f 5 7 dR_isOpenAt_2 (by decide) rfl c1 ?_
    refine g_iconst 6 (1 : Int32) dR_isOpenAt_5 rfl (by decide) ?_
    obtain rfl := Option.some.inj h
    exact g_zret rfl (by decide) dR_isOpenAt_6 hK
  · rw [if_neg c1] at h
    refine g_icmp_ne_t 7 dR_isOpenAt_2 (by decide) c1 ?_
    refine g_aload_n 8 (i := 0) dR_isOpenAt_7 rfl rfl rfl ?_
    obtain ⟨t2, e2, h⟩ := x_bind h
    refine g_getfR 11 1 1 dR_isOpenAt_8 rfl x_in1 tw_1_34 rfl (by decide) e2 ?_
    refine g_iload_n 12 (i := 2) dR_isOpenAt_11 rfl rfl rfl ?_
    obtain ⟨t3, e3, h⟩ := x_bind h
    refine g_iald 13 dR_isOpenAt_12 rfl e3 ?_
    refine g_iload_n 14 (i := 1) dR_isOpenAt_13 rfl rfl rfl ?_
    refine g_cSN 17 (some (.int (fA_has t3 v1))) w [.int t3, .int v1] [] dR_isOpenAt_14 rfl (fun _ hK2 => mA_has (d - 1) (by omega) rfl hK2) kR_25 (x_rm (Nat.le_trans (by decide) hd) (by decide)) ⟨Nat.zero_le _, Nat.zero_le _⟩ (Nat.le_of_ble_eq_true rfl) rfl ?_
    by_cases c4 : (fA_has t3 v1) = (0 : Int32)
    · rw [if_pos c4] at h
      refine g_if_eq_t 54 dR_isOpenAt_17 (by decide) c4 ?_
      refine g_iload 56 dR_isOpenAt_54 rfl rfl ?_
      refine g_iload_n 57 (i := 2) dR_isOpenAt_56 rfl rfl rfl ?_
      refine g_cSN 60 (some (.int (fA_has v4 v2))) w [.int v4, .int v2] [] dR_isOpenAt_57 rfl (fun _ hK2 => mA_has (d - 1) (by omega) rfl hK2) kR_25 (x_rm (Nat.le_trans (by decide) hd) (by decide)) ⟨Nat.zero_le _, Nat.zero_le _⟩ (Nat.le_of_ble_eq_true rfl) rfl ?_
      by_cases c5 : (fA_has v4 v2) = (0 : Int32)
      · rw [if_pos c5] at h
        refine g_if_ne_f 63 67 dR_isOpenAt_60 (by decide) rfl c5 ?_
        refine g_iconst 64 (1 : Int32) dR_isOpenAt_63 rfl (by decide) ?_
        refine g_goto 68 dR_isOpenAt_64 (by decide) ?_
        obtain rfl := Option.some.inj h
        exact g_zret rfl (by decide) dR_isOpenAt_68 hK
      · rw [if_neg c5] at h
        refine g_if_ne_t 67 dR_isOpenAt_60 (by decide) c5 ?_
        refine g_iconst 68 (0 : Int32) dR_isOpenAt_67 rfl (by decide) ?_
        obtain rfl := Option.some.inj h
        exact g_zret rfl (by decide) dR_isOpenAt_68 hK
    · rw [if_neg c4] at h
      refine g_if_eq_f 20 54 dR_isOpenAt_17 (by decide) rfl c4 ?_
      refine g_aload_n 21 (i := 0) dR_isOpenAt_20 rfl rfl rfl ?_
      refine g_getfR 24 1 1 dR_isOpenAt_21 rfl x_in1 tw_1_34 rfl (by decide) e2 ?_
      refine g_iload_n 25 (i := 2) dR_isOpenAt_24 rfl rfl rfl ?_
      refine g_iald 26 dR_isOpenAt_25 rfl e3 ?_
      refine g_iload_n 27 (i := 3) dR_isOpenAt_26 rfl rfl rfl ?_
      refine g_cSN 30 (some (.int (fA_has t3 v3))) w [.int t3, .int v3] [] dR_isOpenAt_27 rfl (fun _ hK2 => mA_has (d - 1) (by omega) rfl hK2) kR_25 (x_rm (Nat.le_trans (by decide) hd) (by decide)) ⟨Nat.zero_le _, Nat.zero_le _⟩ (Nat.le_of_ble_eq_true rfl) rfl ?_
      by_cases c6 : (fA_has t3 v3) = (0 : Int32)
      · rw [if_pos c6] at h
        refine g_if_eq_t 54 dR_isOpenAt_30 (by decide) c6 ?_
        refine g_iload 56 dR_isOpenAt_54 rfl rfl ?_
        refine g_iload_n 57 (i := 2) dR_isOpenAt_56 rfl rfl rfl ?_
        refine g_cSN 60 (some (.int (fA_has v4 v2))) w [.int v4, .int v2] [] dR_isOpenAt_57 rfl (fun _ hK2 => mA_has (d - 1) (by omega) rfl hK2) kR_25 (x_rm (Nat.le_trans (by decide) hd) (by decide)) ⟨Nat.zero_le _, Nat.zero_le _⟩ (Nat.le_of_ble_eq_true rfl) rfl ?_
        by_cases c7 : (fA_has v4 v2) = (0 : Int32)
        · rw [if_pos c7] at h
          refine g_if_ne_f 63 67 dR_isOpenAt_60 (by decide) rfl c7 ?_
          refine g_iconst 64 (1 : Int32) dR_isOpenAt_63 rfl (by decide) ?_
          refine g_goto 68 dR_isOpenAt_64 (by decide) ?_
          obtain rfl := Option.some.inj h
          exact g_zret rfl (by decide) dR_isOpenAt_68 hK
        · rw [if_neg c7] at h
          refine g_if_ne_t 67 dR_isOpenAt_60 (by decide) c7 ?_
          refine g_iconst 68 (0 : Int32) dR_isOpenAt_67 rfl (by decide) ?_
          obtain rfl := Option.some.inj h
          exact g_zret rfl (by decide) dR_isOpenAt_68 hK
      · rw [if_neg c6] at h
        refine g_if_eq_f 33 54 dR_isOpenAt_30 (by decide) rfl c6 ?_
        refine g_iload 35 dR_isOpenAt_33 rfl rfl ?_
        refine g_iconst 36 (1 : Int32) dR_isOpenAt_35 rfl (by decide) ?_
        refine g_iload_n 37 (i := 2) dR_isOpenAt_36 rfl rfl rfl ?_
        refine g_ishl 38 dR_isOpenAt_37 rfl ?_
        refine g_aload_n 39 (i := 0) dR_isOpenAt_38 rfl rfl rfl ?_
        refine g_iload_n 40 (i := 2) dR_isOpenAt_39 rfl rfl rfl ?_
        obtain ⟨t8, e8, h⟩ := x_bind h
        refine g_cV 43 (some (.int t8)) w [.int v2] [.int ((1 : Int32) <<< (v2 &&& 31)), .int v4] dR_isOpenAt_40 rfl (fun _ hK2 => mR_afterOf (d - 1) (by omega) e8 hK2) (x_fr_ob e2) kR_43 (x_rm (Nat.le_trans (by decide) hd) (by decide)) ⟨Nat.zero_le _, Nat.zero_le _⟩ (Nat.le_of_ble_eq_true rfl) rfl ?_
        refine g_ior 44 dR_isOpenAt_43 rfl ?_
        refine g_iand 45 dR_isOpenAt_44 rfl ?_
        by_cases c9 : (v4 &&& (((1 : Int32) <<< (v2 &&& 31)) ||| t8)) = (0 : Int32)
        · rw [if_pos c9] at h
          refine g_if_eq_t 52 dR_isOpenAt_45 (by decide) c9 ?_
          refine g_iconst 53 (0 : Int32) dR_isOpenAt_52 rfl (by decide) ?_
          obtain rfl := Option.some.inj h
          exact g_zret rfl (by decide) dR_isOpenAt_53 hK
        · rw [if_neg c9] at h
          refine g_if_eq_f 48 52 dR_isOpenAt_45 (by decide) rfl c9 ?_
          refine g_iconst 49 (1 : Int32) dR_isOpenAt_48 rfl (by decide) ?_
          refine g_goto 53 dR_isOpenAt_49 (by decide) ?_
          obtain rfl := Option.some.inj h
          exact g_zret rfl (by decide) dR_isOpenAt_53 hK
/-! ActSurgery$Arrows.openWaysOn(IIIIII)I: level P -/
theorem dR_openWaysOn_0 : decode cR_openWaysOn 0 = .ok (.iload_n 2, 1) := by decide +kernel
theorem dR_openWaysOn_1 : decode cR_openWaysOn 1 = .ok (.iload_n 3, 1) := by decide +kernel
theorem dR_openWaysOn_2 : decode cR_openWaysOn 2 = .ok (.if_icmp .ne 5, 3) := by decide +kernel
theorem dR_openWaysOn_5 : decode cR_openWaysOn 5 = .ok (.iconst 1, 1) := by decide +kernel
theorem dR_openWaysOn_6 : decode cR_openWaysOn 6 = .ok (.ireturn, 1) := by decide +kernel
theorem dR_openWaysOn_7 : decode cR_openWaysOn 7 = .ok (.iload 6, 2) := by decide +kernel
theorem dR_openWaysOn_9 : decode cR_openWaysOn 9 = .ok (.aload_n 0, 1) := by decide +kernel
theorem dR_openWaysOn_10 : decode cR_openWaysOn 10 = .ok (.getfield 15, 3) := by decide +kernel
theorem dR_openWaysOn_13 : decode cR_openWaysOn 13 = .ok (.if_icmp .lt 5, 3) := by decide +kernel
theorem dR_openWaysOn_16 : decode cR_openWaysOn 16 = .ok (.iconst 0, 1) := by decide +kernel
theorem dR_openWaysOn_17 : decode cR_openWaysOn 17 = .ok (.ireturn, 1) := by decide +kernel
theorem dR_openWaysOn_18 : decode cR_openWaysOn 18 = .ok (.iconst 0, 1) := by decide +kernel
theorem dR_openWaysOn_19 : decode cR_openWaysOn 19 = .ok (.istore 7, 2) := by decide +kernel
theorem dR_openWaysOn_21 : decode cR_openWaysOn 21 = .ok (.iconst 0, 1) := by decide +kernel
theorem dR_openWaysOn_22 : decode cR_openWaysOn 22 = .ok (.istore 8, 2) := by decide +kernel
theorem dR_openWaysOn_24 : decode cR_openWaysOn 24 = .ok (.iload 8, 2) := by decide +kernel
theorem dR_openWaysOn_26 : decode cR_openWaysOn 26 = .ok (.aload_n 0, 1) := by decide +kernel
theorem dR_openWaysOn_27 : decode cR_openWaysOn 27 = .ok (.getfield 15, 3) := by decide +kernel
theorem dR_openWaysOn_30 : decode cR_openWaysOn 30 = .ok (.if_icmp .ge 68, 3) := by decide +kernel
theorem dR_openWaysOn_33 : decode cR_openWaysOn 33 = .ok (.iload 4, 2) := by decide +kernel
theorem dR_openWaysOn_35 : decode cR_openWaysOn 35 = .ok (.iload 8, 2) := by decide +kernel
theorem dR_openWaysOn_37 : decode cR_openWaysOn 37 = .ok (.invokestatic 25, 3) := by decide +kernel
theorem dR_openWaysOn_40 : decode cR_openWaysOn 40 = .ok (.ifCond .ne 52, 3) := by decide +kernel
theorem dR_openWaysOn_43 : decode cR_openWaysOn 43 = .ok (.aload_n 0, 1) := by decide +kernel
theorem dR_openWaysOn_44 : decode cR_openWaysOn 44 = .ok (.iload_n 2, 1) := by decide +kernel
theorem dR_openWaysOn_45 : decode cR_openWaysOn 45 = .ok (.iload 8, 2) := by decide +kernel
theorem dR_openWaysOn_47 : decode cR_openWaysOn 47 = .ok (.invokevirtual 36, 3) := by decide +kernel
theorem dR_openWaysOn_50 : decode cR_openWaysOn 50 = .ok (.ifCond .eq 42, 3) := by decide +kernel
theorem dR_openWaysOn_53 : decode cR_openWaysOn 53 = .ok (.aload_n 0, 1) := by decide +kernel
theorem dR_openWaysOn_54 : decode cR_openWaysOn 54 = .ok (.iload_n 1, 1) := by decide +kernel
theorem dR_openWaysOn_55 : decode cR_openWaysOn 55 = .ok (.iload_n 2, 1) := by decide +kernel
theorem dR_openWaysOn_56 : decode cR_openWaysOn 56 = .ok (.iload 8, 2) := by decide +kernel
theorem dR_openWaysOn_58 : decode cR_openWaysOn 58 = .ok (.iload 5, 2) := by decide +kernel
theorem dR_openWaysOn_60 : decode cR_openWaysOn 60 = .ok (.invokevirtual 39, 3) := by decide +kernel
theorem dR_openWaysOn_63 : decode cR_openWaysOn 63 = .ok (.ifCond .eq 29, 3) := by decide +kernel
theorem dR_openWaysOn_66 : decode cR_openWaysOn 66 = .ok (.iload 7, 2) := by decide +kernel
theorem dR_openWaysOn_68 : decode cR_openWaysOn 68 = .ok (.aload_n 0, 1) := by decide +kernel
theorem dR_openWaysOn_69 : decode cR_openWaysOn 69 = .ok (.iload_n 2, 1) := by decide +kernel
theorem dR_openWaysOn_70 : decode cR_openWaysOn 70 = .ok (.iload 8, 2) := by decide +kernel
theorem dR_openWaysOn_72 : decode cR_openWaysOn 72 = .ok (.iload_n 3, 1) := by decide +kernel
theorem dR_openWaysOn_73 : decode cR_openWaysOn 73 = .ok (.iload 4, 2) := by decide +kernel
theorem dR_openWaysOn_75 : decode cR_openWaysOn 75 = .ok (.iconst 1, 1) := by decide +kernel
theorem dR_openWaysOn_76 : decode cR_openWaysOn 76 = .ok (.iload 8, 2) := by decide +kernel
theorem dR_openWaysOn_78 : decode cR_openWaysOn 78 = .ok (.ishl, 1) := by decide +kernel
theorem dR_openWaysOn_79 : decode cR_openWaysOn 79 = .ok (.ior, 1) := by decide +kernel
theorem dR_openWaysOn_80 : decode cR_openWaysOn 80 = .ok (.iload 5, 2) := by decide +kernel
theorem dR_openWaysOn_82 : decode cR_openWaysOn 82 = .ok (.iload 6, 2) := by decide +kernel
theorem dR_openWaysOn_84 : decode cR_openWaysOn 84 = .ok (.iconst 1, 1) := by decide +kernel
theorem dR_openWaysOn_85 : decode cR_openWaysOn 85 = .ok (.iadd, 1) := by decide +kernel
theorem dR_openWaysOn_86 : decode cR_openWaysOn 86 = .ok (.invokevirtual 32, 3) := by decide +kernel
theorem dR_openWaysOn_89 : decode cR_openWaysOn 89 = .ok (.iadd, 1) := by decide +kernel
theorem dR_openWaysOn_90 : decode cR_openWaysOn 90 = .ok (.istore 7, 2) := by decide +kernel
theorem dR_openWaysOn_92 : decode cR_openWaysOn 92 = .ok (.iinc 8 1, 3) := by decide +kernel
theorem dR_openWaysOn_95 : decode cR_openWaysOn 95 = .ok (.goto (-71), 3) := by decide +kernel
theorem dR_openWaysOn_98 : decode cR_openWaysOn 98 = .ok (.iload 7, 2) := by decide +kernel
theorem dR_openWaysOn_100 : decode cR_openWaysOn 100 = .ok (.ireturn, 1) := by decide +kernel
theorem tw_2_29 : (Jvm.Cond.instanceMethod ({ cls := "ActSurgery$Arrows", name := "isBeside", desc := "(II)Z" } : Jvm.MethodName)) ∈ x_GT := x_t2 29 rfl rfl
theorem tws_11 : (Jvm.Cond.selects "ActSurgery$Arrows" ({ cls := "ActSurgery$Arrows", name := "isBeside", desc := "(II)Z" } : Jvm.MethodName) ({ cls := "ActSurgery$Arrows", name := "isBeside", desc := "(II)Z" } : Jvm.MethodName)) ∈ x_GT := x_ts 11 rfl rfl
theorem tw_2_30 : (Jvm.Cond.code ({ cls := "ActSurgery$Arrows", name := "isBeside", desc := "(II)Z" } : Jvm.MethodName) prog_2_method_12_code (3 : Nat) (Option.some Jvm.ClassFile.FieldType.boolean)) ∈ x_GT := x_t2 30 rfl rfl
theorem tw_2_27 : (Jvm.Cond.methodLink "ActSurgery$Arrows" (36 : Nat) ({ cls := "ActSurgery$Arrows", name := "isBeside", desc := "(II)Z" } : Jvm.MethodName)) ∈ x_GT := x_t2 27 rfl rfl
theorem kR_36 : x_kV "ActSurgery$Arrows" 36 yR_isBeside cR_isBeside 3 (some .boolean) 2 1 := ⟨tw_2_29, tws_11, tw_2_30, tw_1_3, tw_2_27, (by decide +kernel), rfl⟩
theorem tw_2_33 : (Jvm.Cond.instanceMethod ({ cls := "ActSurgery$Arrows", name := "isOpenAt", desc := "(IIII)Z" } : Jvm.MethodName)) ∈ x_GT := x_t2 33 rfl rfl
theorem tws_12 : (Jvm.Cond.selects "ActSurgery$Arrows" ({ cls := "ActSurgery$Arrows", name := "isOpenAt", desc := "(IIII)Z" } : Jvm.MethodName) ({ cls := "ActSurgery$Arrows", name := "isOpenAt", desc := "(IIII)Z" } : Jvm.MethodName)) ∈ x_GT := x_ts 12 rfl rfl
theorem tw_2_34 : (Jvm.Cond.code ({ cls := "ActSurgery$Arrows", name := "isOpenAt", desc := "(IIII)Z" } : Jvm.MethodName) prog_2_method_13_code (5 : Nat) (Option.some Jvm.ClassFile.FieldType.boolean)) ∈ x_GT := x_t2 34 rfl rfl
theorem tw_2_31 : (Jvm.Cond.methodLink "ActSurgery$Arrows" (39 : Nat) ({ cls := "ActSurgery$Arrows", name := "isOpenAt", desc := "(IIII)Z" } : Jvm.MethodName)) ∈ x_GT := x_t2 31 rfl rfl
theorem kR_39 : x_kV "ActSurgery$Arrows" 39 yR_isOpenAt cR_isOpenAt 5 (some .boolean) 4 1 := ⟨tw_2_33, tws_12, tw_2_34, tw_1_3, tw_2_31, (by decide +kernel), rfl⟩
theorem tw_2_25 : (Jvm.Cond.instanceMethod ({ cls := "ActSurgery$Arrows", name := "openWaysOn", desc := "(IIIIII)I" } : Jvm.MethodName)) ∈ x_GT := x_t2 25 rfl rfl
theorem tws_10 : (Jvm.Cond.selects "ActSurgery$Arrows" ({ cls := "ActSurgery$Arrows", name := "openWaysOn", desc := "(IIIIII)I" } : Jvm.MethodName) ({ cls := "ActSurgery$Arrows", name := "openWaysOn", desc := "(IIIIII)I" } : Jvm.MethodName)) ∈ x_GT := x_ts 10 rfl rfl
theorem tw_2_26 : (Jvm.Cond.code ({ cls := "ActSurgery$Arrows", name := "openWaysOn", desc := "(IIIIII)I" } : Jvm.MethodName) prog_2_method_11_code (9 : Nat) (Option.some Jvm.ClassFile.FieldType.int)) ∈ x_GT := x_t2 26 rfl rfl
theorem tw_2_23 : (Jvm.Cond.methodLink "ActSurgery$Arrows" (32 : Nat) ({ cls := "ActSurgery$Arrows", name := "openWaysOn", desc := "(IIIIII)I" } : Jvm.MethodName)) ∈ x_GT := x_t2 23 rfl rfl
theorem kR_32 : x_kV "ActSurgery$Arrows" 32 yR_openWaysOn cR_openWaysOn 9 (some .int) 6 1 := ⟨tw_2_25, tws_10, tw_2_26, tw_1_3, tw_2_23, (by decide +kernel), rfl⟩
def fR_openWaysOn_24 (w : x_W) (rc : Nat → Int32 → Int32 → Int32 → Int32 → Int32 → Int32 → Option Int32) : Nat → Nat → Int32 → Int32 → Int32 → Int32 → Int32 → Int32 → Int32 → Int32 → Option Int32
  | 0, _, _, _, _, _, _, _, _, _ => none
  | n + 1, v0, v1, v2, v3, v4, v5, v6, v7, v8 =>
    (x_fi w v0 1 0).bind fun t1 =>
    if t1 ≤ v8 then
      some v7
    else
      if (fA_has v4 v8) = (0 : Int32) then
        (fR_isBeside w v0 v2 v8).bind fun t4 =>
        if t4 = (0 : Int32) then
          fR_openWaysOn_24 w rc n v0 v1 v2 v3 v4 v5 v6 v7 (v8 + (1 : Int32))
        else
          (fR_isOpenAt w v0 v1 v2 v8 v5).bind fun t6 =>
          if t6 = (0 : Int32) then
            fR_openWaysOn_24 w rc n v0 v1 v2 v3 v4 v5 v6 v7 (v8 + (1 : Int32))
          else
            (rc v0 v2 v8 v3 (v4 ||| ((1 : Int32) <<< (v8 &&& 31))) v5 (v6 + (1 : Int32))).bind fun t8 =>
            fR_openWaysOn_24 w rc n v0 v1 v2 v3 v4 v5 v6 (v7 + t8) (v8 + (1 : Int32))
      else
        fR_openWaysOn_24 w rc n v0 v1 v2 v3 v4 v5 v6 v7 (v8 + (1 : Int32))
def fR_openWaysOn (w : x_W) : Nat → Nat → Int32 → Int32 → Int32 → Int32 → Int32 → Int32 → Option Int32
  | 0, _, _, _, _, _, _, _ => none
  | n + 1, v0, v1, v2, v3, v4, v5, v6 =>
    if v2 = v3 then
      some (1 : Int32)
    else
      (x_fi w v0 1 0).bind fun t2 =>
      if v6 < t2 then
        fR_openWaysOn_24 w (fR_openWaysOn w n) x_F v0 v1 v2 v3 v4 v5 v6 (0 : Int32) (0 : Int32)
      else
        some (0 : Int32)
set_option maxHeartbeats 4000000 in
set_option maxRecDepth 100000 in
theorem lR_openWaysOn_24 (d : Nat) (hd : 4 ≤ d) {K : Option Value → x_W → Prop} {r : Int32} {w : x_W} (hK : K (some (.int r)) w) {rc : Nat → Int32 → Int32 → Int32 → Int32 → Int32 → Int32 → Option Int32} (hrc : ∀ (v0 : Nat) (v1 : Int32) (v2 : Int32) (v3 : Int32) (v4 : Int32) (v5 : Int32) (v6 : Int32) (r : Int32), rc v0 v1 v2 v3 v4 v5 v6 = some r → ∀ K : Option Value → x_W → Prop, K (some (.int r)) w → x_M yR_openWaysOn cR_openWaysOn 9 (some .int) (d - 1) 0 0 [.ref v0, .int v1, .int v2, .int v3, .int v4, .int v5, .int v6] w K) : ∀ (n : Nat) (v0 : Nat) (v1 : Int32) (v2 : Int32) (v3 : Int32) (v4 : Int32) (v5 : Int32) (v6 : Int32) (v7 : Int32) (v8 : Int32), fR_openWaysOn_24 w rc n v0 v1 v2 v3 v4 v5 v6 v7 v8 = some r → x_G none yR_openWaysOn cR_openWaysOn 9 (some .int) (x_room d 0 0) (x_QM K 0 0) 24 [some (.ref v0), some (.int v1), some (.int v2), some (.int v3), some (.int v4), some (.int v5), some (.int v6), some (.int v7), some (.int v8)] [] w 0 0 := by
  intro n
  induction n with
  | zero => intro v0 v1 v2 v3 v4 v5 v6 v7 v8 h; rw [fR_openWaysOn_24] at h; cases h
  | succ n ih =>
    intro v0 v1 v2 v3 v4 v5 v6 v7 v8 h
    rw [fR_openWaysOn_24] at h
    refine g_iload 26 dR_openWaysOn_24 rfl rfl ?_
    refine g_aload_n 27 (i := 0) dR_openWaysOn_26 rfl rfl rfl ?_
    obtain ⟨t1, e1, h⟩ := x_bind h
    refine g_getfI 30 1 0 dR_openWaysOn_27 rfl x_in1 tw_1_31 rfl (by decide) e1 ?_
    by_cases c2 : t1 ≤ v8
    · rw [if_pos c2] at h
      refine g_icmp_ge_t 98 dR_openWaysOn_30 (by decide) c2 ?_
      refine g_iload 100 dR_openWaysOn_98 rfl rfl ?_
      obtain rfl := Option.some.inj h
      exact g_iret rfl dR_openWaysOn_100 hK
    · rw [if_neg c2] at h
      refine g_icmp_ge_f 33 98 dR_openWaysOn_30 (by decide) rfl c2 ?_
      refine g_iload 35 dR_openWaysOn_33 rfl rfl ?_
      refine g_iload 37 dR_openWaysOn_35 rfl rfl ?_
      refine g_cSN 40 (some (.int (fA_has v4 v8))) w [.int v4, .int v8] [] dR_openWaysOn_37 rfl (fun _ hK2 => mA_has (d - 1) (by omega) rfl hK2) kR_25 (x_rm (Nat.le_trans (by decide) hd) (by decide)) ⟨Nat.zero_le _, Nat.zero_le _⟩ (Nat.le_of_ble_eq_true rfl) rfl ?_
      by_cases c3 : (fA_has v4 v8) = (0 : Int32)
      · rw [if_pos c3] at h
        refine g_if_ne_f 43 92 dR_openWaysOn_40 (by decide) rfl c3 ?_
        refine g_aload_n 44 (i := 0) dR_openWaysOn_43 rfl rfl rfl ?_
        refine g_iload_n 45 (i := 2) dR_openWaysOn_44 rfl rfl rfl ?_
        refine g_iload 47 dR_openWaysOn_45 rfl rfl ?_
        obtain ⟨t4, e4, h⟩ := x_bind h
        refine g_cV 50 (some (.int t4)) w [.int v2, .int v8] [] dR_openWaysOn_47 rfl (fun _ hK2 => mR_isBeside (d - 1) (by omega) e4 hK2) (x_fi_ob e1) kR_36 (x_rm (Nat.le_trans (by decide) hd) (by decide)) ⟨Nat.zero_le _, Nat.zero_le _⟩ (Nat.le_of_ble_eq_true rfl) rfl ?_
        by_cases c5 : t4 = (0 : Int32)
        · rw [if_pos c5] at h
          refine g_if_eq_t 92 dR_openWaysOn_50 (by decide) c5 ?_
          refine g_iinc 95 [some (.ref v0), some (.int v1), some (.int v2), some (.int v3), some (.int v4), some (.int v5), some (.int v6), some (.int v7), some (.int (v8 + (1 : Int32)))] dR_openWaysOn_92 rfl rfl (x_inc (1 : Int32) (by decide)) rfl (by decide) ?_
          refine g_goto 24 dR_openWaysOn_95 (by decide) ?_
          exact ih _ _ _ _ _ _ _ _ _ h
        · rw [if_neg c5] at h
          refine g_if_eq_f 53 92 dR_openWaysOn_50 (by decide) rfl c5 ?_
          refine g_aload_n 54 (i := 0) dR_openWaysOn_53 rfl rfl rfl ?_
          refine g_iload_n 55 (i := 1) dR_openWaysOn_54 rfl rfl rfl ?_
          refine g_iload_n 56 (i := 2) dR_openWaysOn_55 rfl rfl rfl ?_
          refine g_iload 58 dR_openWaysOn_56 rfl rfl ?_
          refine g_iload 60 dR_openWaysOn_58 rfl rfl ?_
          obtain ⟨t6, e6, h⟩ := x_bind h
          refine g_cV 63 (some (.int t6)) w [.int v1, .int v2, .int v8, .int v5] [] dR_openWaysOn_60 rfl (fun _ hK2 => mR_isOpenAt (d - 1) (by omega) e6 hK2) (x_fi_ob e1) kR_39 (x_rm (Nat.le_trans (by decide) hd) (by decide)) ⟨Nat.zero_le _, Nat.zero_le _⟩ (Nat.le_of_ble_eq_true rfl) rfl ?_
          by_cases c7 : t6 = (0 : Int32)
          · rw [if_pos c7] at h
            refine g_if_eq_t 92 dR_openWaysOn_63 (by decide) c7 ?_
            refine g_iinc 95 [some (.ref v0), some (.int v1), some (.int v2), some (.int v3), some (.int v4), some (.int v5), some (.int v6), some (.int v7), some (.int (v8 + (1 : Int32)))] dR_openWaysOn_92 rfl rfl (x_inc (1 : Int32) (by decide)) rfl (by decide) ?_
            refine g_goto 24 dR_openWaysOn_95 (by decide) ?_
            exact ih _ _ _ _ _ _ _ _ _ h
          · rw [if_neg c7] at h
            refine g_if_eq_f 66 92 dR_openWaysOn_63 (by decide) rfl c7 ?_
            refine g_iload 68 dR_openWaysOn_66 rfl rfl ?_
            refine g_aload_n 69 (i := 0) dR_openWaysOn_68 rfl rfl rfl ?_
            refine g_iload_n 70 (i := 2) dR_openWaysOn_69 rfl rfl rfl ?_
            refine g_iload 72 dR_openWaysOn_70 rfl rfl ?_
            refine g_iload_n 73 (i := 3) dR_openWaysOn_72 rfl rfl rfl ?_
            refine g_iload 75 dR_openWaysOn_73 rfl rfl ?_
            refine g_iconst 76 (1 : Int32) dR_openWaysOn_75 rfl (by decide) ?_
            refine g_iload 78 dR_openWaysOn_76 rfl rfl ?_
            refine g_ishl 79 dR_openWaysOn_78 rfl ?_
            refine g_ior 80 dR_openWaysOn_79 rfl ?_
            refine g_iload 82 dR_openWaysOn_80 rfl rfl ?_
            refine g_iload 84 dR_openWaysOn_82 rfl rfl ?_
            refine g_iconst 85 (1 : Int32) dR_openWaysOn_84 rfl (by decide) ?_
            refine g_iadd 86 dR_openWaysOn_85 rfl ?_
            obtain ⟨t8, e8, h⟩ := x_bind h
            refine g_cV 89 (some (.int t8)) w [.int v2, .int v8, .int v3, .int (v4 ||| ((1 : Int32) <<< (v8 &&& 31))), .int v5, .int (v6 + (1 : Int32))] [.int v7] dR_openWaysOn_86 rfl (fun _ hK2 => hrc _ _ _ _ _ _ _ _ e8 _ hK2) (x_fi_ob e1) kR_32 (x_rm (Nat.le_trans (by decide) hd) (by decide)) ⟨Nat.zero_le _, Nat.zero_le _⟩ (Nat.le_of_ble_eq_true rfl) rfl ?_
            refine g_iadd 90 dR_openWaysOn_89 rfl ?_
            refine g_istore 92 [some (.ref v0), some (.int v1), some (.int v2), some (.int v3), some (.int v4), some (.int v5), some (.int v6), some (.int (v7 + t8)), some (.int v8)] dR_openWaysOn_90 rfl rfl (by decide) ?_
            refine g_iinc 95 [some (.ref v0), some (.int v1), some (.int v2), some (.int v3), some (.int v4), some (.int v5), some (.int v6), some (.int (v7 + t8)), some (.int (v8 + (1 : Int32)))] dR_openWaysOn_92 rfl rfl (x_inc (1 : Int32) (by decide)) rfl (by decide) ?_
            refine g_goto 24 dR_openWaysOn_95 (by decide) ?_
            exact ih _ _ _ _ _ _ _ _ _ h
      · rw [if_neg c3] at h
        refine g_if_ne_t 92 dR_openWaysOn_40 (by decide) c3 ?_
        refine g_iinc 95 [some (.ref v0), some (.int v1), some (.int v2), some (.int v3), some (.int v4), some (.int v5), some (.int v6), some (.int v7), some (.int (v8 + (1 : Int32)))] dR_openWaysOn_92 rfl rfl (x_inc (1 : Int32) (by decide)) rfl (by decide) ?_
        refine g_goto 24 dR_openWaysOn_95 (by decide) ?_
        exact ih _ _ _ _ _ _ _ _ _ h
set_option maxHeartbeats 4000000 in
set_option maxRecDepth 100000 in
theorem mR_openWaysOn : ∀ (k d : Nat) (_ : 3 + k ≤ d) (K : Option Value → x_W → Prop) (w : x_W) (v0 : Nat) (v1 : Int32) (v2 : Int32) (v3 : Int32) (v4 : Int32) (v5 : Int32) (v6 : Int32) (r : Int32) (_ : fR_openWaysOn w k v0 v1 v2 v3 v4 v5 v6 = some r) (_ : K (some (.int r)) w), x_M yR_openWaysOn cR_openWaysOn 9 (some .int) d 0 0 [.ref v0, .int v1, .int v2, .int v3, .int v4, .int v5, .int v6] w K := by
  intro k
  induction k with
  | zero => intro d hd K w v0 v1 v2 v3 v4 v5 v6 r h hK; rw [fR_openWaysOn] at h; cases h
  | succ k ih =>
    intro d hd K w v0 v1 v2 v3 v4 v5 v6 r h hK
    have hrc : ∀ (v0 : Nat) (v1 : Int32) (v2 : Int32) (v3 : Int32) (v4 : Int32) (v5 : Int32) (v6 : Int32) (r : Int32), fR_openWaysOn w k v0 v1 v2 v3 v4 v5 v6 = some r → ∀ K : Option Value → x_W → Prop, K (some (.int r)) w → x_M yR_openWaysOn cR_openWaysOn 9 (some .int) (d - 1) 0 0 [.ref v0, .int v1, .int v2, .int v3, .int v4, .int v5, .int v6] w K := fun v0 v1 v2 v3 v4 v5 v6 r h K hK => ih (d - 1) (by omega) K w v0 v1 v2 v3 v4 v5 v6 r h hK
    have hd : 4 ≤ d := by omega
    refine x_M.of [some (.ref v0), some (.int v1), some (.int v2), some (.int v3), some (.int v4), some (.int v5), some (.int v6), none, none] (by decide) rfl (Nat.le_of_ble_eq_true rfl) ?_
    rw [fR_openWaysOn] at h
    refine g_iload_n 1 (i := 2) dR_openWaysOn_0 rfl rfl rfl ?_
    refine g_iload_n 2 (i := 3) dR_openWaysOn_1 rfl rfl rfl ?_
    by_cases c1 : v2 = v3
    · rw [if_pos c1] at h
      refine g_icmp_ne_f 5 7 dR_openWaysOn_2 (by decide) rfl c1 ?_
      refine g_iconst 6 (1 : Int32) dR_openWaysOn_5 rfl (by decide) ?_
      obtain rfl := Option.some.inj h
      exact g_iret rfl dR_openWaysOn_6 hK
    · rw [if_neg c1] at h
      refine g_icmp_ne_t 7 dR_openWaysOn_2 (by decide) c1 ?_
      refine g_iload 9 dR_openWaysOn_7 rfl rfl ?_
      refine g_aload_n 10 (i := 0) dR_openWaysOn_9 rfl rfl rfl ?_
      obtain ⟨t2, e2, h⟩ := x_bind h
      refine g_getfI 13 1 0 dR_openWaysOn_10 rfl x_in1 tw_1_31 rfl (by decide) e2 ?_
      by_cases c3 : v6 < t2
      · rw [if_pos c3] at h
        refine g_icmp_lt_t 18 dR_openWaysOn_13 (by decide) c3 ?_
        refine g_iconst 19 (0 : Int32) dR_openWaysOn_18 rfl (by decide) ?_
        refine g_istore 21 [some (.ref v0), some (.int v1), some (.int v2), some (.int v3), some (.int v4), some (.int v5), some (.int v6), some (.int (0 : Int32)), none] dR_openWaysOn_19 rfl rfl (by decide) ?_
        refine g_iconst 22 (0 : Int32) dR_openWaysOn_21 rfl (by decide) ?_
        refine g_istore 24 [some (.ref v0), some (.int v1), some (.int v2), some (.int v3), some (.int v4), some (.int v5), some (.int v6), some (.int (0 : Int32)), some (.int (0 : Int32))] dR_openWaysOn_22 rfl rfl (by decide) ?_
        exact lR_openWaysOn_24 d hd hK hrc x_F _ _ _ _ _ _ _ _ _ h
      · rw [if_neg c3] at h
        refine g_icmp_lt_f 16 18 dR_openWaysOn_13 (by decide) rfl c3 ?_
        refine g_iconst 17 (0 : Int32) dR_openWaysOn_16 rfl (by decide) ?_
        obtain rfl := Option.some.inj h
        exact g_iret rfl dR_openWaysOn_17 hK
/-! ActSurgery$Arrows.isParted(III)Z: level P -/
theorem dR_isParted_0 : decode cR_isParted 0 = .ok (.aload_n 0, 1) := by decide +kernel
theorem dR_isParted_1 : decode cR_isParted 1 = .ok (.iconst (-1), 1) := by decide +kernel
theorem dR_isParted_2 : decode cR_isParted 2 = .ok (.iload_n 1, 1) := by decide +kernel
theorem dR_isParted_3 : decode cR_isParted 3 = .ok (.iload_n 2, 1) := by decide +kernel
theorem dR_isParted_4 : decode cR_isParted 4 = .ok (.iconst 1, 1) := by decide +kernel
theorem dR_isParted_5 : decode cR_isParted 5 = .ok (.iload_n 1, 1) := by decide +kernel
theorem dR_isParted_6 : decode cR_isParted 6 = .ok (.ishl, 1) := by decide +kernel
theorem dR_isParted_7 : decode cR_isParted 7 = .ok (.iload_n 3, 1) := by decide +kernel
theorem dR_isParted_8 : decode cR_isParted 8 = .ok (.iconst 0, 1) := by decide +kernel
theorem dR_isParted_9 : decode cR_isParted 9 = .ok (.invokevirtual 32, 3) := by decide +kernel
theorem dR_isParted_12 : decode cR_isParted 12 = .ok (.ifCond .ne 7, 3) := by decide +kernel
theorem dR_isParted_15 : decode cR_isParted 15 = .ok (.iconst 1, 1) := by decide +kernel
theorem dR_isParted_16 : decode cR_isParted 16 = .ok (.goto 4, 3) := by decide +kernel
theorem dR_isParted_19 : decode cR_isParted 19 = .ok (.iconst 0, 1) := by decide +kernel
theorem dR_isParted_20 : decode cR_isParted 20 = .ok (.ireturn, 1) := by decide +kernel
def fR_isParted (w : x_W) (v0 : Nat) (v1 : Int32) (v2 : Int32) (v3 : Int32) : Option Int32 :=
  (x_ob w v0 1).bind fun _ =>
  (fR_openWaysOn w 8 v0 (-1 : Int32) v1 v2 ((1 : Int32) <<< (v1 &&& 31)) v3 (0 : Int32)).bind fun t2 =>
  if t2 = (0 : Int32) then
    some (1 : Int32)
  else
    some (0 : Int32)
set_option maxHeartbeats 4000000 in
set_option maxRecDepth 100000 in
theorem mR_isParted (d : Nat) (hd : 12 ≤ d) {K : Option Value → x_W → Prop} {w : x_W} {v0 : Nat} {v1 : Int32} {v2 : Int32} {v3 : Int32} {r : Int32} (h : fR_isParted w v0 v1 v2 v3 = some r) (hK : K (some (.int r)) w) : x_M yR_isParted cR_isParted 4 (some .boolean) d 0 0 [.ref v0, .int v1, .int v2, .int v3] w K := by
  refine x_M.of [some (.ref v0), some (.int v1), some (.int v2), some (.int v3)] (by decide) rfl (Nat.le_of_ble_eq_true rfl) ?_
  unfold fR_isParted at h
  refine g_aload_n 1 (i := 0) dR_isParted_0 rfl rfl rfl ?_
  refine g_iconst 2 (-1 : Int32) dR_isParted_1 rfl (by decide) ?_
  refine g_iload_n 3 (i := 1) dR_isParted_2 rfl rfl rfl ?_
  refine g_iload_n 4 (i := 2) dR_isParted_3 rfl rfl rfl ?_
  refine g_iconst 5 (1 : Int32) dR_isParted_4 rfl (by decide) ?_
  refine g_iload_n 6 (i := 1) dR_isParted_5 rfl rfl rfl ?_
  refine g_ishl 7 dR_isParted_6 rfl ?_
  refine g_iload_n 8 (i := 3) dR_isParted_7 rfl rfl rfl ?_
  refine g_iconst 9 (0 : Int32) dR_isParted_8 rfl (by decide) ?_
  obtain ⟨_, e1, h⟩ := x_bind h
  obtain ⟨t2, e2, h⟩ := x_bind h
  refine g_cV 12 (some (.int t2)) w [.int (-1 : Int32), .int v1, .int v2, .int ((1 : Int32) <<< (v1 &&& 31)), .int v3, .int (0 : Int32)] [] dR_isParted_9 rfl (fun _ hK2 => mR_openWaysOn 8 (d - 1) (by omega) _ _ _ _ _ _ _ _ _ _ e2 hK2) (x_ob_some e1) kR_32 (x_rm (Nat.le_trans (by decide) hd) (by decide)) ⟨Nat.zero_le _, Nat.zero_le _⟩ (Nat.le_of_ble_eq_true rfl) rfl ?_
  by_cases c3 : t2 = (0 : Int32)
  · rw [if_pos c3] at h
    refine g_if_ne_f 15 19 dR_isParted_12 (by decide) rfl c3 ?_
    refine g_iconst 16 (1 : Int32) dR_isParted_15 rfl (by decide) ?_
    refine g_goto 20 dR_isParted_16 (by decide) ?_
    obtain rfl := Option.some.inj h
    exact g_zret rfl (by decide) dR_isParted_20 hK
  · rw [if_neg c3] at h
    refine g_if_ne_t 19 dR_isParted_12 (by decide) c3 ?_
    refine g_iconst 20 (0 : Int32) dR_isParted_19 rfl (by decide) ?_
    obtain rfl := Option.some.inj h
    exact g_zret rfl (by decide) dR_isParted_20 hK
/-! ActSurgery.leastParting(II)I: level P -/
theorem dA_leastParting_0 : decode cA_leastParting 0 = .ok (.aload_n 0, 1) := by decide +kernel
theorem dA_leastParting_1 : decode cA_leastParting 1 = .ok (.invokevirtual 185, 3) := by decide +kernel
theorem dA_leastParting_4 : decode cA_leastParting 4 = .ok (.iconst 1, 1) := by decide +kernel
theorem dA_leastParting_5 : decode cA_leastParting 5 = .ok (.iload_n 1, 1) := by decide +kernel
theorem dA_leastParting_6 : decode cA_leastParting 6 = .ok (.ishl, 1) := by decide +kernel
theorem dA_leastParting_7 : decode cA_leastParting 7 = .ok (.iconst (-1), 1) := by decide +kernel
theorem dA_leastParting_8 : decode cA_leastParting 8 = .ok (.ixor, 1) := by decide +kernel
theorem dA_leastParting_9 : decode cA_leastParting 9 = .ok (.iand, 1) := by decide +kernel
theorem dA_leastParting_10 : decode cA_leastParting 10 = .ok (.iconst 1, 1) := by decide +kernel
theorem dA_leastParting_11 : decode cA_leastParting 11 = .ok (.iload_n 2, 1) := by decide +kernel
theorem dA_leastParting_12 : decode cA_leastParting 12 = .ok (.ishl, 1) := by decide +kernel
theorem dA_leastParting_13 : decode cA_leastParting 13 = .ok (.iconst (-1), 1) := by decide +kernel
theorem dA_leastParting_14 : decode cA_leastParting 14 = .ok (.ixor, 1) := by decide +kernel
theorem dA_leastParting_15 : decode cA_leastParting 15 = .ok (.iand, 1) := by decide +kernel
theorem dA_leastParting_16 : decode cA_leastParting 16 = .ok (.istore_n 3, 1) := by decide +kernel
theorem dA_leastParting_17 : decode cA_leastParting 17 = .ok (.iconst (-1), 1) := by decide +kernel
theorem dA_leastParting_18 : decode cA_leastParting 18 = .ok (.istore 4, 2) := by decide +kernel
theorem dA_leastParting_20 : decode cA_leastParting 20 = .ok (.iconst 0, 1) := by decide +kernel
theorem dA_leastParting_21 : decode cA_leastParting 21 = .ok (.istore 5, 2) := by decide +kernel
theorem dA_leastParting_23 : decode cA_leastParting 23 = .ok (.iload 5, 2) := by decide +kernel
theorem dA_leastParting_25 : decode cA_leastParting 25 = .ok (.iload_n 3, 1) := by decide +kernel
theorem dA_leastParting_26 : decode cA_leastParting 26 = .ok (.if_icmp .gt 49, 3) := by decide +kernel
theorem dA_leastParting_29 : decode cA_leastParting 29 = .ok (.iload 5, 2) := by decide +kernel
theorem dA_leastParting_31 : decode cA_leastParting 31 = .ok (.iload_n 3, 1) := by decide +kernel
theorem dA_leastParting_32 : decode cA_leastParting 32 = .ok (.invokestatic 62, 3) := by decide +kernel
theorem dA_leastParting_35 : decode cA_leastParting 35 = .ok (.ifCond .eq 34, 3) := by decide +kernel
theorem dA_leastParting_38 : decode cA_leastParting 38 = .ok (.iload 5, 2) := by decide +kernel
theorem dA_leastParting_40 : decode cA_leastParting 40 = .ok (.iload 4, 2) := by decide +kernel
theorem dA_leastParting_42 : decode cA_leastParting 42 = .ok (.invokestatic 154, 3) := by decide +kernel
theorem dA_leastParting_45 : decode cA_leastParting 45 = .ok (.ifCond .eq 24, 3) := by decide +kernel
theorem dA_leastParting_48 : decode cA_leastParting 48 = .ok (.aload_n 0, 1) := by decide +kernel
theorem dA_leastParting_49 : decode cA_leastParting 49 = .ok (.getfield 10, 3) := by decide +kernel
theorem dA_leastParting_52 : decode cA_leastParting 52 = .ok (.getfield 43, 3) := by decide +kernel
theorem dA_leastParting_55 : decode cA_leastParting 55 = .ok (.iload_n 1, 1) := by decide +kernel
theorem dA_leastParting_56 : decode cA_leastParting 56 = .ok (.iload_n 2, 1) := by decide +kernel
theorem dA_leastParting_57 : decode cA_leastParting 57 = .ok (.iload 5, 2) := by decide +kernel
theorem dA_leastParting_59 : decode cA_leastParting 59 = .ok (.invokevirtual 131, 3) := by decide +kernel
theorem dA_leastParting_62 : decode cA_leastParting 62 = .ok (.ifCond .eq 7, 3) := by decide +kernel
theorem dA_leastParting_65 : decode cA_leastParting 65 = .ok (.iload 5, 2) := by decide +kernel
theorem dA_leastParting_67 : decode cA_leastParting 67 = .ok (.istore 4, 2) := by decide +kernel
theorem dA_leastParting_69 : decode cA_leastParting 69 = .ok (.iinc 5 1, 3) := by decide +kernel
theorem dA_leastParting_72 : decode cA_leastParting 72 = .ok (.goto (-49), 3) := by decide +kernel
theorem dA_leastParting_75 : decode cA_leastParting 75 = .ok (.iload 4, 2) := by decide +kernel
theorem dA_leastParting_77 : decode cA_leastParting 77 = .ok (.ireturn, 1) := by decide +kernel
theorem tw_2_16 : (Jvm.Cond.static ({ cls := "ActSurgery", name := "isFewer", desc := "(II)Z" } : Jvm.MethodName)) ∈ x_GT := x_t2 16 rfl rfl
theorem tw_2_17 : (Jvm.Cond.code ({ cls := "ActSurgery", name := "isFewer", desc := "(II)Z" } : Jvm.MethodName) prog_1_method_43_code (2 : Nat) (Option.some Jvm.ClassFile.FieldType.boolean)) ∈ x_GT := x_t2 17 rfl rfl
theorem tw_2_15 : (Jvm.Cond.methodLink "ActSurgery" (154 : Nat) ({ cls := "ActSurgery", name := "isFewer", desc := "(II)Z" } : Jvm.MethodName)) ∈ x_GT := x_t2 15 rfl rfl
theorem kA_154 : x_kS "ActSurgery" 154 yA_isFewer cA_isFewer 2 (some .boolean) 2 := ⟨tw_2_16, tw_2_17, tw_1_1, tw_2_15, (by decide +kernel)⟩
theorem tw_2_20 : (Jvm.Cond.instanceMethod ({ cls := "ActSurgery$Arrows", name := "isParted", desc := "(III)Z" } : Jvm.MethodName)) ∈ x_GT := x_t2 20 rfl rfl
theorem tw_2_21 : (Jvm.Cond.selects "ActSurgery$Arrows" ({ cls := "ActSurgery$Arrows", name := "isParted", desc := "(III)Z" } : Jvm.MethodName) ({ cls := "ActSurgery$Arrows", name := "isParted", desc := "(III)Z" } : Jvm.MethodName)) ∈ x_GT := x_t2 21 rfl rfl
theorem tw_2_22 : (Jvm.Cond.code ({ cls := "ActSurgery$Arrows", name := "isParted", desc := "(III)Z" } : Jvm.MethodName) prog_2_method_9_code (4 : Nat) (Option.some Jvm.ClassFile.FieldType.boolean)) ∈ x_GT := x_t2 22 rfl rfl
theorem tw_2_19 : (Jvm.Cond.methodLink "ActSurgery" (131 : Nat) ({ cls := "ActSurgery$Arrows", name := "isParted", desc := "(III)Z" } : Jvm.MethodName)) ∈ x_GT := x_t2 19 rfl rfl
theorem kA_131 : x_kV "ActSurgery" 131 yR_isParted cR_isParted 4 (some .boolean) 3 1 := ⟨tw_2_20, tw_2_21, tw_2_22, tw_1_3, tw_2_19, (by decide +kernel), rfl⟩
theorem tw_2_13 : (Jvm.Cond.instanceMethod ({ cls := "ActSurgery", name := "allPlaces", desc := "()I" } : Jvm.MethodName)) ∈ x_GT := x_t2 13 rfl rfl
theorem tws_9 : (Jvm.Cond.selects "ActSurgery" ({ cls := "ActSurgery", name := "allPlaces", desc := "()I" } : Jvm.MethodName) ({ cls := "ActSurgery", name := "allPlaces", desc := "()I" } : Jvm.MethodName)) ∈ x_GT := x_ts 9 rfl rfl
theorem tw_2_14 : (Jvm.Cond.code ({ cls := "ActSurgery", name := "allPlaces", desc := "()I" } : Jvm.MethodName) prog_1_method_21_code (1 : Nat) (Option.some Jvm.ClassFile.FieldType.int)) ∈ x_GT := x_t2 14 rfl rfl
theorem tw_2_11 : (Jvm.Cond.methodLink "ActSurgery" (185 : Nat) ({ cls := "ActSurgery", name := "allPlaces", desc := "()I" } : Jvm.MethodName)) ∈ x_GT := x_t2 11 rfl rfl
theorem kA_185 : x_kV "ActSurgery" 185 yA_allPlaces cA_allPlaces 1 (some .int) 0 0 := ⟨tw_2_13, tws_9, tw_2_14, tw_1_1, tw_2_11, (by decide +kernel), rfl⟩
def fA_leastParting_23 (w : x_W) : Nat → Nat → Int32 → Int32 → Int32 → Int32 → Int32 → Option Int32
  | 0, _, _, _, _, _, _ => none
  | n + 1, v0, v1, v2, v3, v4, v5 =>
    if v3 < v5 then
      some v4
    else
      if (fA_isWithin v5 v3) = (0 : Int32) then
        fA_leastParting_23 w n v0 v1 v2 v3 v4 (v5 + (1 : Int32))
      else
        if (fA_isFewer v5 v4) = (0 : Int32) then
          fA_leastParting_23 w n v0 v1 v2 v3 v4 (v5 + (1 : Int32))
        else
          (x_fr w v0 0 0).bind fun t4 =>
          (x_fr w t4 2 0).bind fun t5 =>
          (x_ob w t5 1).bind fun _ =>
          (fR_isParted w t5 v1 v2 v5).bind fun t7 =>
          if t7 = (0 : Int32) then
            fA_leastParting_23 w n v0 v1 v2 v3 v4 (v5 + (1 : Int32))
          else
            fA_leastParting_23 w n v0 v1 v2 v3 v5 (v5 + (1 : Int32))
def fA_leastParting (w : x_W) (v0 : Nat) (v1 : Int32) (v2 : Int32) : Option Int32 :=
  (x_ob w v0 0).bind fun _ =>
  (fA_allPlaces w v0).bind fun t2 =>
  fA_leastParting_23 w x_F v0 v1 v2 ((t2 &&& (((1 : Int32) <<< (v1 &&& 31)) ^^^ (-1 : Int32))) &&& (((1 : Int32) <<< (v2 &&& 31)) ^^^ (-1 : Int32))) (-1 : Int32) (0 : Int32)
set_option maxHeartbeats 4000000 in
set_option maxRecDepth 100000 in
theorem lA_leastParting_23 (d : Nat) (hd : 13 ≤ d) {K : Option Value → x_W → Prop} {r : Int32} {w : x_W} (hK : K (some (.int r)) w) : ∀ (n : Nat) (v0 : Nat) (v1 : Int32) (v2 : Int32) (v3 : Int32) (v4 : Int32) (v5 : Int32), fA_leastParting_23 w n v0 v1 v2 v3 v4 v5 = some r → x_G none yA_leastParting cA_leastParting 6 (some .int) (x_room d 0 0) (x_QM K 0 0) 23 [some (.ref v0), some (.int v1), some (.int v2), some (.int v3), some (.int v4), some (.int v5)] [] w 0 0 := by
  intro n
  induction n with
  | zero => intro v0 v1 v2 v3 v4 v5 h; rw [fA_leastParting_23] at h; cases h
  | succ n ih =>
    intro v0 v1 v2 v3 v4 v5 h
    rw [fA_leastParting_23] at h
    refine g_iload 25 dA_leastParting_23 rfl rfl ?_
    refine g_iload_n 26 (i := 3) dA_leastParting_25 rfl rfl rfl ?_
    by_cases c1 : v3 < v5
    · rw [if_pos c1] at h
      refine g_icmp_gt_t 75 dA_leastParting_26 (by decide) c1 ?_
      refine g_iload 77 dA_leastParting_75 rfl rfl ?_
      obtain rfl := Option.some.inj h
      exact g_iret rfl dA_leastParting_77 hK
    · rw [if_neg c1] at h
      refine g_icmp_gt_f 29 75 dA_leastParting_26 (by decide) rfl c1 ?_
      refine g_iload 31 dA_leastParting_29 rfl rfl ?_
      refine g_iload_n 32 (i := 3) dA_leastParting_31 rfl rfl rfl ?_
      refine g_cS 35 (some (.int (fA_isWithin v5 v3))) w [.int v5, .int v3] [] dA_leastParting_32 rfl (fun _ hK2 => mA_isWithin (d - 1) (by omega) rfl hK2) kA_62 (x_rm (Nat.le_trans (by decide) hd) (by decide)) ⟨Nat.zero_le _, Nat.zero_le _⟩ (Nat.le_of_ble_eq_true rfl) rfl ?_
      by_cases c2 : (fA_isWithin v5 v3) = (0 : Int32)
      · rw [if_pos c2] at h
        refine g_if_eq_t 69 dA_leastParting_35 (by decide) c2 ?_
        refine g_iinc 72 [some (.ref v0), some (.int v1), some (.int v2), some (.int v3), some (.int v4), some (.int (v5 + (1 : Int32)))] dA_leastParting_69 rfl rfl (x_inc (1 : Int32) (by decide)) rfl (by decide) ?_
        refine g_goto 23 dA_leastParting_72 (by decide) ?_
        exact ih _ _ _ _ _ _ h
      · rw [if_neg c2] at h
        refine g_if_eq_f 38 69 dA_leastParting_35 (by decide) rfl c2 ?_
        refine g_iload 40 dA_leastParting_38 rfl rfl ?_
        refine g_iload 42 dA_leastParting_40 rfl rfl ?_
        refine g_cS 45 (some (.int (fA_isFewer v5 v4))) w [.int v5, .int v4] [] dA_leastParting_42 rfl (fun _ hK2 => mA_isFewer (d - 1) (by omega) rfl hK2) kA_154 (x_rm (Nat.le_trans (by decide) hd) (by decide)) ⟨Nat.zero_le _, Nat.zero_le _⟩ (Nat.le_of_ble_eq_true rfl) rfl ?_
        by_cases c3 : (fA_isFewer v5 v4) = (0 : Int32)
        · rw [if_pos c3] at h
          refine g_if_eq_t 69 dA_leastParting_45 (by decide) c3 ?_
          refine g_iinc 72 [some (.ref v0), some (.int v1), some (.int v2), some (.int v3), some (.int v4), some (.int (v5 + (1 : Int32)))] dA_leastParting_69 rfl rfl (x_inc (1 : Int32) (by decide)) rfl (by decide) ?_
          refine g_goto 23 dA_leastParting_72 (by decide) ?_
          exact ih _ _ _ _ _ _ h
        · rw [if_neg c3] at h
          refine g_if_eq_f 48 69 dA_leastParting_45 (by decide) rfl c3 ?_
          refine g_aload_n 49 (i := 0) dA_leastParting_48 rfl rfl rfl ?_
          obtain ⟨t4, e4, h⟩ := x_bind h
          refine g_getfR 52 0 0 dA_leastParting_49 rfl x_in0 tw_1_115 rfl (by decide) e4 ?_
          obtain ⟨t5, e5, h⟩ := x_bind h
          refine g_getfR 55 2 0 dA_leastParting_52 rfl x_in2 tw_1_57 rfl (by decide) e5 ?_
          refine g_iload_n 56 (i := 1) dA_leastParting_55 rfl rfl rfl ?_
          refine g_iload_n 57 (i := 2) dA_leastParting_56 rfl rfl rfl ?_
          refine g_iload 59 dA_leastParting_57 rfl rfl ?_
          obtain ⟨_, e6, h⟩ := x_bind h
          obtain ⟨t7, e7, h⟩ := x_bind h
          refine g_cV 62 (some (.int t7)) w [.int v1, .int v2, .int v5] [] dA_leastParting_59 rfl (fun _ hK2 => mR_isParted (d - 1) (by omega) e7 hK2) (x_ob_some e6) kA_131 (x_rm (Nat.le_trans (by decide) hd) (by decide)) ⟨Nat.zero_le _, Nat.zero_le _⟩ (Nat.le_of_ble_eq_true rfl) rfl ?_
          by_cases c8 : t7 = (0 : Int32)
          · rw [if_pos c8] at h
            refine g_if_eq_t 69 dA_leastParting_62 (by decide) c8 ?_
            refine g_iinc 72 [some (.ref v0), some (.int v1), some (.int v2), some (.int v3), some (.int v4), some (.int (v5 + (1 : Int32)))] dA_leastParting_69 rfl rfl (x_inc (1 : Int32) (by decide)) rfl (by decide) ?_
            refine g_goto 23 dA_leastParting_72 (by decide) ?_
            exact ih _ _ _ _ _ _ h
          · rw [if_neg c8] at h
            refine g_if_eq_f 65 69 dA_leastParting_62 (by decide) rfl c8 ?_
            refine g_iload 67 dA_leastParting_65 rfl rfl ?_
            refine g_istore 69 [some (.ref v0), some (.int v1), some (.int v2), some (.int v3), some (.int v5), some (.int v5)] dA_leastParting_67 rfl rfl (by decide) ?_
            refine g_iinc 72 [some (.ref v0), some (.int v1), some (.int v2), some (.int v3), some (.int v5), some (.int (v5 + (1 : Int32)))] dA_leastParting_69 rfl rfl (x_inc (1 : Int32) (by decide)) rfl (by decide) ?_
            refine g_goto 23 dA_leastParting_72 (by decide) ?_
            exact ih _ _ _ _ _ _ h
set_option maxHeartbeats 4000000 in
set_option maxRecDepth 100000 in
theorem mA_leastParting (d : Nat) (hd : 13 ≤ d) {K : Option Value → x_W → Prop} {w : x_W} {v0 : Nat} {v1 : Int32} {v2 : Int32} {r : Int32} (h : fA_leastParting w v0 v1 v2 = some r) (hK : K (some (.int r)) w) : x_M yA_leastParting cA_leastParting 6 (some .int) d 0 0 [.ref v0, .int v1, .int v2] w K := by
  refine x_M.of [some (.ref v0), some (.int v1), some (.int v2), none, none, none] (by decide) rfl (Nat.le_of_ble_eq_true rfl) ?_
  unfold fA_leastParting at h
  refine g_aload_n 1 (i := 0) dA_leastParting_0 rfl rfl rfl ?_
  obtain ⟨_, e1, h⟩ := x_bind h
  obtain ⟨t2, e2, h⟩ := x_bind h
  refine g_cV 4 (some (.int t2)) w [] [] dA_leastParting_1 rfl (fun _ hK2 => mA_allPlaces (d - 1) (by omega) e2 hK2) (x_ob_some e1) kA_185 (x_rm (Nat.le_trans (by decide) hd) (by decide)) ⟨Nat.zero_le _, Nat.zero_le _⟩ (Nat.le_of_ble_eq_true rfl) rfl ?_
  refine g_iconst 5 (1 : Int32) dA_leastParting_4 rfl (by decide) ?_
  refine g_iload_n 6 (i := 1) dA_leastParting_5 rfl rfl rfl ?_
  refine g_ishl 7 dA_leastParting_6 rfl ?_
  refine g_iconst 8 (-1 : Int32) dA_leastParting_7 rfl (by decide) ?_
  refine g_ixor 9 dA_leastParting_8 rfl ?_
  refine g_iand 10 dA_leastParting_9 rfl ?_
  refine g_iconst 11 (1 : Int32) dA_leastParting_10 rfl (by decide) ?_
  refine g_iload_n 12 (i := 2) dA_leastParting_11 rfl rfl rfl ?_
  refine g_ishl 13 dA_leastParting_12 rfl ?_
  refine g_iconst 14 (-1 : Int32) dA_leastParting_13 rfl (by decide) ?_
  refine g_ixor 15 dA_leastParting_14 rfl ?_
  refine g_iand 16 dA_leastParting_15 rfl ?_
  refine g_istore_n 17 (i := 3) [some (.ref v0), some (.int v1), some (.int v2), some (.int ((t2 &&& (((1 : Int32) <<< (v1 &&& 31)) ^^^ (-1 : Int32))) &&& (((1 : Int32) <<< (v2 &&& 31)) ^^^ (-1 : Int32)))), none, none] dA_leastParting_16 rfl rfl rfl (by decide) ?_
  refine g_iconst 18 (-1 : Int32) dA_leastParting_17 rfl (by decide) ?_
  refine g_istore 20 [some (.ref v0), some (.int v1), some (.int v2), some (.int ((t2 &&& (((1 : Int32) <<< (v1 &&& 31)) ^^^ (-1 : Int32))) &&& (((1 : Int32) <<< (v2 &&& 31)) ^^^ (-1 : Int32)))), some (.int (-1 : Int32)), none] dA_leastParting_18 rfl rfl (by decide) ?_
  refine g_iconst 21 (0 : Int32) dA_leastParting_20 rfl (by decide) ?_
  refine g_istore 23 [some (.ref v0), some (.int v1), some (.int v2), some (.int ((t2 &&& (((1 : Int32) <<< (v1 &&& 31)) ^^^ (-1 : Int32))) &&& (((1 : Int32) <<< (v2 &&& 31)) ^^^ (-1 : Int32)))), some (.int (-1 : Int32)), some (.int (0 : Int32))] dA_leastParting_21 rfl rfl (by decide) ?_
  exact lA_leastParting_23 d hd hK x_F _ _ _ _ _ _ h
/-! ActSurgery.howManyPairsParted()I: level P -/
theorem dA_howManyPairsParted_0 : decode cA_howManyPairsParted 0 = .ok (.iconst 0, 1) := by decide +kernel
theorem dA_howManyPairsParted_1 : decode cA_howManyPairsParted 1 = .ok (.istore_n 1, 1) := by decide +kernel
theorem dA_howManyPairsParted_2 : decode cA_howManyPairsParted 2 = .ok (.iconst 0, 1) := by decide +kernel
theorem dA_howManyPairsParted_3 : decode cA_howManyPairsParted 3 = .ok (.istore_n 2, 1) := by decide +kernel
theorem dA_howManyPairsParted_4 : decode cA_howManyPairsParted 4 = .ok (.iload_n 2, 1) := by decide +kernel
theorem dA_howManyPairsParted_5 : decode cA_howManyPairsParted 5 = .ok (.aload_n 0, 1) := by decide +kernel
theorem dA_howManyPairsParted_6 : decode cA_howManyPairsParted 6 = .ok (.getfield 10, 3) := by decide +kernel
theorem dA_howManyPairsParted_9 : decode cA_howManyPairsParted 9 = .ok (.getfield 43, 3) := by decide +kernel
theorem dA_howManyPairsParted_12 : decode cA_howManyPairsParted 12 = .ok (.getfield 46, 3) := by decide +kernel
theorem dA_howManyPairsParted_15 : decode cA_howManyPairsParted 15 = .ok (.if_icmp .ge 46, 3) := by decide +kernel
theorem dA_howManyPairsParted_18 : decode cA_howManyPairsParted 18 = .ok (.iload_n 2, 1) := by decide +kernel
theorem dA_howManyPairsParted_19 : decode cA_howManyPairsParted 19 = .ok (.iconst 1, 1) := by decide +kernel
theorem dA_howManyPairsParted_20 : decode cA_howManyPairsParted 20 = .ok (.iadd, 1) := by decide +kernel
theorem dA_howManyPairsParted_21 : decode cA_howManyPairsParted 21 = .ok (.istore_n 3, 1) := by decide +kernel
theorem dA_howManyPairsParted_22 : decode cA_howManyPairsParted 22 = .ok (.iload_n 3, 1) := by decide +kernel
theorem dA_howManyPairsParted_23 : decode cA_howManyPairsParted 23 = .ok (.aload_n 0, 1) := by decide +kernel
theorem dA_howManyPairsParted_24 : decode cA_howManyPairsParted 24 = .ok (.getfield 10, 3) := by decide +kernel
theorem dA_howManyPairsParted_27 : decode cA_howManyPairsParted 27 = .ok (.getfield 43, 3) := by decide +kernel
theorem dA_howManyPairsParted_30 : decode cA_howManyPairsParted 30 = .ok (.getfield 46, 3) := by decide +kernel
theorem dA_howManyPairsParted_33 : decode cA_howManyPairsParted 33 = .ok (.if_icmp .ge 22, 3) := by decide +kernel
theorem dA_howManyPairsParted_36 : decode cA_howManyPairsParted 36 = .ok (.aload_n 0, 1) := by decide +kernel
theorem dA_howManyPairsParted_37 : decode cA_howManyPairsParted 37 = .ok (.iload_n 2, 1) := by decide +kernel
theorem dA_howManyPairsParted_38 : decode cA_howManyPairsParted 38 = .ok (.iload_n 3, 1) := by decide +kernel
theorem dA_howManyPairsParted_39 : decode cA_howManyPairsParted 39 = .ok (.invokevirtual 137, 3) := by decide +kernel
theorem dA_howManyPairsParted_42 : decode cA_howManyPairsParted 42 = .ok (.iconst (-1), 1) := by decide +kernel
theorem dA_howManyPairsParted_43 : decode cA_howManyPairsParted 43 = .ok (.if_icmp .eq 6, 3) := by decide +kernel
theorem dA_howManyPairsParted_46 : decode cA_howManyPairsParted 46 = .ok (.iinc 1 1, 3) := by decide +kernel
theorem dA_howManyPairsParted_49 : decode cA_howManyPairsParted 49 = .ok (.iinc 3 1, 3) := by decide +kernel
theorem dA_howManyPairsParted_52 : decode cA_howManyPairsParted 52 = .ok (.goto (-30), 3) := by decide +kernel
theorem dA_howManyPairsParted_55 : decode cA_howManyPairsParted 55 = .ok (.iinc 2 1, 3) := by decide +kernel
theorem dA_howManyPairsParted_58 : decode cA_howManyPairsParted 58 = .ok (.goto (-54), 3) := by decide +kernel
theorem dA_howManyPairsParted_61 : decode cA_howManyPairsParted 61 = .ok (.iload_n 1, 1) := by decide +kernel
theorem dA_howManyPairsParted_62 : decode cA_howManyPairsParted 62 = .ok (.ireturn, 1) := by decide +kernel
theorem tw_2_9 : (Jvm.Cond.instanceMethod ({ cls := "ActSurgery", name := "leastParting", desc := "(II)I" } : Jvm.MethodName)) ∈ x_GT := x_t2 9 rfl rfl
theorem tws_8 : (Jvm.Cond.selects "ActSurgery" ({ cls := "ActSurgery", name := "leastParting", desc := "(II)I" } : Jvm.MethodName) ({ cls := "ActSurgery", name := "leastParting", desc := "(II)I" } : Jvm.MethodName)) ∈ x_GT := x_ts 8 rfl rfl
theorem tw_2_10 : (Jvm.Cond.code ({ cls := "ActSurgery", name := "leastParting", desc := "(II)I" } : Jvm.MethodName) prog_1_method_29_code (6 : Nat) (Option.some Jvm.ClassFile.FieldType.int)) ∈ x_GT := x_t2 10 rfl rfl
theorem tw_2_7 : (Jvm.Cond.methodLink "ActSurgery" (137 : Nat) ({ cls := "ActSurgery", name := "leastParting", desc := "(II)I" } : Jvm.MethodName)) ∈ x_GT := x_t2 7 rfl rfl
theorem kA_137 : x_kV "ActSurgery" 137 yA_leastParting cA_leastParting 6 (some .int) 2 0 := ⟨tw_2_9, tws_8, tw_2_10, tw_1_1, tw_2_7, (by decide +kernel), rfl⟩
def fA_howManyPairsParted_22 (w : x_W) (k4 : Nat → Int32 → Int32 → Option Int32) : Nat → Nat → Int32 → Int32 → Int32 → Option Int32
  | 0, _, _, _, _ => none
  | n + 1, v0, v1, v2, v3 =>
    (x_fr w v0 0 0).bind fun t1 =>
    (x_fr w t1 2 0).bind fun t2 =>
    (x_fi w t2 1 0).bind fun t3 =>
    if t3 ≤ v3 then
      k4 v0 v1 (v2 + (1 : Int32))
    else
      (fA_leastParting w v0 v2 v3).bind fun t5 =>
      if t5 = (-1 : Int32) then
        fA_howManyPairsParted_22 w k4 n v0 v1 v2 (v3 + (1 : Int32))
      else
        fA_howManyPairsParted_22 w k4 n v0 (v1 + (1 : Int32)) v2 (v3 + (1 : Int32))
def fA_howManyPairsParted_4 (w : x_W) : Nat → Nat → Int32 → Int32 → Option Int32
  | 0, _, _, _ => none
  | n + 1, v0, v1, v2 =>
    (x_fr w v0 0 0).bind fun t1 =>
    (x_fr w t1 2 0).bind fun t2 =>
    (x_fi w t2 1 0).bind fun t3 =>
    if t3 ≤ v2 then
      some v1
    else
      fA_howManyPairsParted_22 w (fA_howManyPairsParted_4 w n) x_F v0 v1 v2 (v2 + (1 : Int32))
def fA_howManyPairsParted (w : x_W) (v0 : Nat) : Option Int32 :=
  fA_howManyPairsParted_4 w x_F v0 (0 : Int32) (0 : Int32)
set_option maxHeartbeats 4000000 in
set_option maxRecDepth 100000 in
theorem lA_howManyPairsParted_22 (d : Nat) (hd : 14 ≤ d) {K : Option Value → x_W → Prop} {r : Int32} {w : x_W} (hK : K (some (.int r)) w) {k4 : Nat → Int32 → Int32 → Option Int32} (hk4 : ∀ (v0 : Nat) (v1 : Int32) (v2 : Int32), k4 v0 v1 v2 = some r → x_G none yA_howManyPairsParted cA_howManyPairsParted 4 (some .int) (x_room d 0 0) (x_QM K 0 0) 4 [some (.ref v0), some (.int v1), some (.int v2), none] [] w 0 0) : ∀ (n : Nat) (v0 : Nat) (v1 : Int32) (v2 : Int32) (v3 : Int32), fA_howManyPairsParted_22 w k4 n v0 v1 v2 v3 = some r → x_G none yA_howManyPairsParted cA_howManyPairsParted 4 (some .int) (x_room d 0 0) (x_QM K 0 0) 22 [some (.ref v0), some (.int v1), some (.int v2), some (.int v3)] [] w 0 0 := by
  intro n
  induction n with
  | zero => intro v0 v1 v2 v3 h; rw [fA_howManyPairsParted_22] at h; cases h
  | succ n ih =>
    intro v0 v1 v2 v3 h
    rw [fA_howManyPairsParted_22] at h
    refine g_iload_n 23 (i := 3) dA_howManyPairsParted_22 rfl rfl rfl ?_
    refine g_aload_n 24 (i := 0) dA_howManyPairsParted_23 rfl rfl rfl ?_
    obtain ⟨t1, e1, h⟩ := x_bind h
    refine g_getfR 27 0 0 dA_howManyPairsParted_24 rfl x_in0 tw_1_115 rfl (by decide) e1 ?_
    obtain ⟨t2, e2, h⟩ := x_bind h
    refine g_getfR 30 2 0 dA_howManyPairsParted_27 rfl x_in2 tw_1_57 rfl (by decide) e2 ?_
    obtain ⟨t3, e3, h⟩ := x_bind h
    refine g_getfI 33 1 0 dA_howManyPairsParted_30 rfl x_in1 tw_1_33 rfl (by decide) e3 ?_
    by_cases c4 : t3 ≤ v3
    · rw [if_pos c4] at h
      refine g_icmp_ge_t 55 dA_howManyPairsParted_33 (by decide) c4 ?_
      refine g_iinc 58 [some (.ref v0), some (.int v1), some (.int (v2 + (1 : Int32))), some (.int v3)] dA_howManyPairsParted_55 rfl rfl (x_inc (1 : Int32) (by decide)) rfl (by decide) ?_
      refine g_goto 4 dA_howManyPairsParted_58 (by decide) ?_
      refine g_less [some (.ref v0), some (.int v1), some (.int (v2 + (1 : Int32))), none] ⟨rfl, rfl, rfl, trivial⟩ ?_
      exact hk4 _ _ _ h
    · rw [if_neg c4] at h
      refine g_icmp_ge_f 36 55 dA_howManyPairsParted_33 (by decide) rfl c4 ?_
      refine g_aload_n 37 (i := 0) dA_howManyPairsParted_36 rfl rfl rfl ?_
      refine g_iload_n 38 (i := 2) dA_howManyPairsParted_37 rfl rfl rfl ?_
      refine g_iload_n 39 (i := 3) dA_howManyPairsParted_38 rfl rfl rfl ?_
      obtain ⟨t5, e5, h⟩ := x_bind h
      refine g_cV 42 (some (.int t5)) w [.int v2, .int v3] [] dA_howManyPairsParted_39 rfl (fun _ hK2 => mA_leastParting (d - 1) (by omega) e5 hK2) (x_fr_ob e1) kA_137 (x_rm (Nat.le_trans (by decide) hd) (by decide)) ⟨Nat.zero_le _, Nat.zero_le _⟩ (Nat.le_of_ble_eq_true rfl) rfl ?_
      refine g_iconst 43 (-1 : Int32) dA_howManyPairsParted_42 rfl (by decide) ?_
      by_cases c6 : t5 = (-1 : Int32)
      · rw [if_pos c6] at h
        refine g_icmp_eq_t 49 dA_howManyPairsParted_43 (by decide) c6 ?_
        refine g_iinc 52 [some (.ref v0), some (.int v1), some (.int v2), some (.int (v3 + (1 : Int32)))] dA_howManyPairsParted_49 rfl rfl (x_inc (1 : Int32) (by decide)) rfl (by decide) ?_
        refine g_goto 22 dA_howManyPairsParted_52 (by decide) ?_
        exact ih _ _ _ _ h
      · rw [if_neg c6] at h
        refine g_icmp_eq_f 46 49 dA_howManyPairsParted_43 (by decide) rfl c6 ?_
        refine g_iinc 49 [some (.ref v0), some (.int (v1 + (1 : Int32))), some (.int v2), some (.int v3)] dA_howManyPairsParted_46 rfl rfl (x_inc (1 : Int32) (by decide)) rfl (by decide) ?_
        refine g_iinc 52 [some (.ref v0), some (.int (v1 + (1 : Int32))), some (.int v2), some (.int (v3 + (1 : Int32)))] dA_howManyPairsParted_49 rfl rfl (x_inc (1 : Int32) (by decide)) rfl (by decide) ?_
        refine g_goto 22 dA_howManyPairsParted_52 (by decide) ?_
        exact ih _ _ _ _ h
set_option maxHeartbeats 4000000 in
set_option maxRecDepth 100000 in
theorem lA_howManyPairsParted_4 (d : Nat) (hd : 14 ≤ d) {K : Option Value → x_W → Prop} {r : Int32} {w : x_W} (hK : K (some (.int r)) w) : ∀ (n : Nat) (v0 : Nat) (v1 : Int32) (v2 : Int32), fA_howManyPairsParted_4 w n v0 v1 v2 = some r → x_G none yA_howManyPairsParted cA_howManyPairsParted 4 (some .int) (x_room d 0 0) (x_QM K 0 0) 4 [some (.ref v0), some (.int v1), some (.int v2), none] [] w 0 0 := by
  intro n
  induction n with
  | zero => intro v0 v1 v2 h; rw [fA_howManyPairsParted_4] at h; cases h
  | succ n ih =>
    intro v0 v1 v2 h
    rw [fA_howManyPairsParted_4] at h
    refine g_iload_n 5 (i := 2) dA_howManyPairsParted_4 rfl rfl rfl ?_
    refine g_aload_n 6 (i := 0) dA_howManyPairsParted_5 rfl rfl rfl ?_
    obtain ⟨t1, e1, h⟩ := x_bind h
    refine g_getfR 9 0 0 dA_howManyPairsParted_6 rfl x_in0 tw_1_115 rfl (by decide) e1 ?_
    obtain ⟨t2, e2, h⟩ := x_bind h
    refine g_getfR 12 2 0 dA_howManyPairsParted_9 rfl x_in2 tw_1_57 rfl (by decide) e2 ?_
    obtain ⟨t3, e3, h⟩ := x_bind h
    refine g_getfI 15 1 0 dA_howManyPairsParted_12 rfl x_in1 tw_1_33 rfl (by decide) e3 ?_
    by_cases c4 : t3 ≤ v2
    · rw [if_pos c4] at h
      refine g_icmp_ge_t 61 dA_howManyPairsParted_15 (by decide) c4 ?_
      refine g_iload_n 62 (i := 1) dA_howManyPairsParted_61 rfl rfl rfl ?_
      obtain rfl := Option.some.inj h
      exact g_iret rfl dA_howManyPairsParted_62 hK
    · rw [if_neg c4] at h
      refine g_icmp_ge_f 18 61 dA_howManyPairsParted_15 (by decide) rfl c4 ?_
      refine g_iload_n 19 (i := 2) dA_howManyPairsParted_18 rfl rfl rfl ?_
      refine g_iconst 20 (1 : Int32) dA_howManyPairsParted_19 rfl (by decide) ?_
      refine g_iadd 21 dA_howManyPairsParted_20 rfl ?_
      refine g_istore_n 22 (i := 3) [some (.ref v0), some (.int v1), some (.int v2), some (.int (v2 + (1 : Int32)))] dA_howManyPairsParted_21 rfl rfl rfl (by decide) ?_
      exact lA_howManyPairsParted_22 d hd hK (fun _ _ _ hz => ih _ _ _ hz) x_F _ _ _ _ h
set_option maxHeartbeats 4000000 in
set_option maxRecDepth 100000 in
theorem mA_howManyPairsParted (d : Nat) (hd : 14 ≤ d) {K : Option Value → x_W → Prop} {w : x_W} {v0 : Nat} {r : Int32} (h : fA_howManyPairsParted w v0 = some r) (hK : K (some (.int r)) w) : x_M yA_howManyPairsParted cA_howManyPairsParted 4 (some .int) d 0 0 [.ref v0] w K := by
  refine x_M.of [some (.ref v0), none, none, none] (by decide) rfl (Nat.le_of_ble_eq_true rfl) ?_
  unfold fA_howManyPairsParted at h
  refine g_iconst 1 (0 : Int32) dA_howManyPairsParted_0 rfl (by decide) ?_
  refine g_istore_n 2 (i := 1) [some (.ref v0), some (.int (0 : Int32)), none, none] dA_howManyPairsParted_1 rfl rfl rfl (by decide) ?_
  refine g_iconst 3 (0 : Int32) dA_howManyPairsParted_2 rfl (by decide) ?_
  refine g_istore_n 4 (i := 2) [some (.ref v0), some (.int (0 : Int32)), some (.int (0 : Int32)), none] dA_howManyPairsParted_3 rfl rfl rfl (by decide) ?_
  exact lA_howManyPairsParted_4 d hd hK x_F _ _ _ h
/-! ActSurgery$Arrows.howMany()I: level P -/
theorem dR_howMany_0 : decode cR_howMany 0 = .ok (.iconst 0, 1) := by decide +kernel
theorem dR_howMany_1 : decode cR_howMany 1 = .ok (.istore_n 1, 1) := by decide +kernel
theorem dR_howMany_2 : decode cR_howMany 2 = .ok (.iconst 0, 1) := by decide +kernel
theorem dR_howMany_3 : decode cR_howMany 3 = .ok (.istore_n 2, 1) := by decide +kernel
theorem dR_howMany_4 : decode cR_howMany 4 = .ok (.iload_n 2, 1) := by decide +kernel
theorem dR_howMany_5 : decode cR_howMany 5 = .ok (.aload_n 0, 1) := by decide +kernel
theorem dR_howMany_6 : decode cR_howMany 6 = .ok (.getfield 15, 3) := by decide +kernel
theorem dR_howMany_9 : decode cR_howMany 9 = .ok (.if_icmp .ge 21, 3) := by decide +kernel
theorem dR_howMany_12 : decode cR_howMany 12 = .ok (.iload_n 1, 1) := by decide +kernel
theorem dR_howMany_13 : decode cR_howMany 13 = .ok (.aload_n 0, 1) := by decide +kernel
theorem dR_howMany_14 : decode cR_howMany 14 = .ok (.getfield 9, 3) := by decide +kernel
theorem dR_howMany_17 : decode cR_howMany 17 = .ok (.iload_n 2, 1) := by decide +kernel
theorem dR_howMany_18 : decode cR_howMany 18 = .ok (.iaload, 1) := by decide +kernel
theorem dR_howMany_19 : decode cR_howMany 19 = .ok (.invokestatic 19, 3) := by decide +kernel
theorem dR_howMany_22 : decode cR_howMany 22 = .ok (.iadd, 1) := by decide +kernel
theorem dR_howMany_23 : decode cR_howMany 23 = .ok (.istore_n 1, 1) := by decide +kernel
theorem dR_howMany_24 : decode cR_howMany 24 = .ok (.iinc 2 1, 3) := by decide +kernel
theorem dR_howMany_27 : decode cR_howMany 27 = .ok (.goto (-23), 3) := by decide +kernel
theorem dR_howMany_30 : decode cR_howMany 30 = .ok (.iload_n 1, 1) := by decide +kernel
theorem dR_howMany_31 : decode cR_howMany 31 = .ok (.ireturn, 1) := by decide +kernel
theorem tw_1_181 : (Jvm.Cond.methodLink "ActSurgery$Arrows" (19 : Nat) ({ cls := "java/lang/Integer", name := "bitCount", desc := "(I)I" } : Jvm.MethodName)) ∈ x_GT := x_t1 181 rfl rfl
theorem kR_19 : x_kS "ActSurgery$Arrows" 19 yI_bitCount cI_bitCount 1 (some .int) 1 := ⟨tw_1_182, tw_1_183, tw_1_7, tw_1_181, (by decide +kernel)⟩
def fR_howMany_4 (w : x_W) : Nat → Nat → Int32 → Int32 → Option Int32
  | 0, _, _, _ => none
  | n + 1, v0, v1, v2 =>
    (x_fi w v0 1 0).bind fun t1 =>
    if t1 ≤ v2 then
      some v1
    else
      (x_fr w v0 1 1).bind fun t3 =>
      (x_ai w t3 v2).bind fun t4 =>
      fR_howMany_4 w n v0 (v1 + (fI_bitCount t4)) (v2 + (1 : Int32))
def fR_howMany (w : x_W) (v0 : Nat) : Option Int32 :=
  fR_howMany_4 w x_F v0 (0 : Int32) (0 : Int32)
set_option maxHeartbeats 4000000 in
set_option maxRecDepth 100000 in
theorem lR_howMany_4 (d : Nat) (hd : 2 ≤ d) {K : Option Value → x_W → Prop} {r : Int32} {w : x_W} (hK : K (some (.int r)) w) : ∀ (n : Nat) (v0 : Nat) (v1 : Int32) (v2 : Int32), fR_howMany_4 w n v0 v1 v2 = some r → x_G none yR_howMany cR_howMany 3 (some .int) (x_room d 0 0) (x_QM K 0 0) 4 [some (.ref v0), some (.int v1), some (.int v2)] [] w 0 0 := by
  intro n
  induction n with
  | zero => intro v0 v1 v2 h; rw [fR_howMany_4] at h; cases h
  | succ n ih =>
    intro v0 v1 v2 h
    rw [fR_howMany_4] at h
    refine g_iload_n 5 (i := 2) dR_howMany_4 rfl rfl rfl ?_
    refine g_aload_n 6 (i := 0) dR_howMany_5 rfl rfl rfl ?_
    obtain ⟨t1, e1, h⟩ := x_bind h
    refine g_getfI 9 1 0 dR_howMany_6 rfl x_in1 tw_1_31 rfl (by decide) e1 ?_
    by_cases c2 : t1 ≤ v2
    · rw [if_pos c2] at h
      refine g_icmp_ge_t 30 dR_howMany_9 (by decide) c2 ?_
      refine g_iload_n 31 (i := 1) dR_howMany_30 rfl rfl rfl ?_
      obtain rfl := Option.some.inj h
      exact g_iret rfl dR_howMany_31 hK
    · rw [if_neg c2] at h
      refine g_icmp_ge_f 12 30 dR_howMany_9 (by decide) rfl c2 ?_
      refine g_iload_n 13 (i := 1) dR_howMany_12 rfl rfl rfl ?_
      refine g_aload_n 14 (i := 0) dR_howMany_13 rfl rfl rfl ?_
      obtain ⟨t3, e3, h⟩ := x_bind h
      refine g_getfR 17 1 1 dR_howMany_14 rfl x_in1 tw_1_34 rfl (by decide) e3 ?_
      refine g_iload_n 18 (i := 2) dR_howMany_17 rfl rfl rfl ?_
      obtain ⟨t4, e4, h⟩ := x_bind h
      refine g_iald 19 dR_howMany_18 rfl e4 ?_
      refine g_cS 22 (some (.int (fI_bitCount t4))) w [.int t4] [.int v1] dR_howMany_19 rfl (fun _ hK2 => mI_bitCount (d - 1) (by omega) rfl hK2) kR_19 (x_rm (Nat.le_trans (by decide) hd) (by decide)) ⟨Nat.zero_le _, Nat.zero_le _⟩ (Nat.le_of_ble_eq_true rfl) rfl ?_
      refine g_iadd 23 dR_howMany_22 rfl ?_
      refine g_istore_n 24 (i := 1) [some (.ref v0), some (.int (v1 + (fI_bitCount t4))), some (.int v2)] dR_howMany_23 rfl rfl rfl (by decide) ?_
      refine g_iinc 27 [some (.ref v0), some (.int (v1 + (fI_bitCount t4))), some (.int (v2 + (1 : Int32)))] dR_howMany_24 rfl rfl (x_inc (1 : Int32) (by decide)) rfl (by decide) ?_
      refine g_goto 4 dR_howMany_27 (by decide) ?_
      exact ih _ _ _ h
set_option maxHeartbeats 4000000 in
set_option maxRecDepth 100000 in
theorem mR_howMany (d : Nat) (hd : 2 ≤ d) {K : Option Value → x_W → Prop} {w : x_W} {v0 : Nat} {r : Int32} (h : fR_howMany w v0 = some r) (hK : K (some (.int r)) w) : x_M yR_howMany cR_howMany 3 (some .int) d 0 0 [.ref v0] w K := by
  refine x_M.of [some (.ref v0), none, none] (by decide) rfl (Nat.le_of_ble_eq_true rfl) ?_
  unfold fR_howMany at h
  refine g_iconst 1 (0 : Int32) dR_howMany_0 rfl (by decide) ?_
  refine g_istore_n 2 (i := 1) [some (.ref v0), some (.int (0 : Int32)), none] dR_howMany_1 rfl rfl rfl (by decide) ?_
  refine g_iconst 3 (0 : Int32) dR_howMany_2 rfl (by decide) ?_
  refine g_istore_n 4 (i := 2) [some (.ref v0), some (.int (0 : Int32)), some (.int (0 : Int32))] dR_howMany_3 rfl rfl rfl (by decide) ?_
  exact lR_howMany_4 d hd hK x_F _ _ _ h
/-! ActSurgery$Graph.seenFrom(I)I: level P -/
theorem dG_seenFrom_0 : decode cG_seenFrom 0 = .ok (.iconst 1, 1) := by decide +kernel
theorem dG_seenFrom_1 : decode cG_seenFrom 1 = .ok (.iload_n 1, 1) := by decide +kernel
theorem dG_seenFrom_2 : decode cG_seenFrom 2 = .ok (.ishl, 1) := by decide +kernel
theorem dG_seenFrom_3 : decode cG_seenFrom 3 = .ok (.istore_n 2, 1) := by decide +kernel
theorem dG_seenFrom_4 : decode cG_seenFrom 4 = .ok (.iconst 0, 1) := by decide +kernel
theorem dG_seenFrom_5 : decode cG_seenFrom 5 = .ok (.istore_n 3, 1) := by decide +kernel
theorem dG_seenFrom_6 : decode cG_seenFrom 6 = .ok (.iload_n 1, 1) := by decide +kernel
theorem dG_seenFrom_7 : decode cG_seenFrom 7 = .ok (.iconst 1, 1) := by decide +kernel
theorem dG_seenFrom_8 : decode cG_seenFrom 8 = .ok (.iadd, 1) := by decide +kernel
theorem dG_seenFrom_9 : decode cG_seenFrom 9 = .ok (.istore 4, 2) := by decide +kernel
theorem dG_seenFrom_11 : decode cG_seenFrom 11 = .ok (.iload 4, 2) := by decide +kernel
theorem dG_seenFrom_13 : decode cG_seenFrom 13 = .ok (.aload_n 0, 1) := by decide +kernel
theorem dG_seenFrom_14 : decode cG_seenFrom 14 = .ok (.getfield 12, 3) := by decide +kernel
theorem dG_seenFrom_17 : decode cG_seenFrom 17 = .ok (.getfield 26, 3) := by decide +kernel
theorem dG_seenFrom_20 : decode cG_seenFrom 20 = .ok (.if_icmp .ge 53, 3) := by decide +kernel
theorem dG_seenFrom_23 : decode cG_seenFrom 23 = .ok (.aload_n 0, 1) := by decide +kernel
theorem dG_seenFrom_24 : decode cG_seenFrom 24 = .ok (.getfield 12, 3) := by decide +kernel
theorem dG_seenFrom_27 : decode cG_seenFrom 27 = .ok (.getfield 47, 3) := by decide +kernel
theorem dG_seenFrom_30 : decode cG_seenFrom 30 = .ok (.iload 4, 2) := by decide +kernel
theorem dG_seenFrom_32 : decode cG_seenFrom 32 = .ok (.iaload, 1) := by decide +kernel
theorem dG_seenFrom_33 : decode cG_seenFrom 33 = .ok (.iload_n 2, 1) := by decide +kernel
theorem dG_seenFrom_34 : decode cG_seenFrom 34 = .ok (.iand, 1) := by decide +kernel
theorem dG_seenFrom_35 : decode cG_seenFrom 35 = .ok (.ifCond .eq 32, 3) := by decide +kernel
theorem dG_seenFrom_38 : decode cG_seenFrom 38 = .ok (.aload_n 0, 1) := by decide +kernel
theorem dG_seenFrom_39 : decode cG_seenFrom 39 = .ok (.getfield 30, 3) := by decide +kernel
theorem dG_seenFrom_42 : decode cG_seenFrom 42 = .ok (.iload 4, 2) := by decide +kernel
theorem dG_seenFrom_44 : decode cG_seenFrom 44 = .ok (.invokestatic 54, 3) := by decide +kernel
theorem dG_seenFrom_47 : decode cG_seenFrom 47 = .ok (.ifCond .eq 13, 3) := by decide +kernel
theorem dG_seenFrom_50 : decode cG_seenFrom 50 = .ok (.iload_n 2, 1) := by decide +kernel
theorem dG_seenFrom_51 : decode cG_seenFrom 51 = .ok (.iconst 1, 1) := by decide +kernel
theorem dG_seenFrom_52 : decode cG_seenFrom 52 = .ok (.iload 4, 2) := by decide +kernel
theorem dG_seenFrom_54 : decode cG_seenFrom 54 = .ok (.ishl, 1) := by decide +kernel
theorem dG_seenFrom_55 : decode cG_seenFrom 55 = .ok (.ior, 1) := by decide +kernel
theorem dG_seenFrom_56 : decode cG_seenFrom 56 = .ok (.istore_n 2, 1) := by decide +kernel
theorem dG_seenFrom_57 : decode cG_seenFrom 57 = .ok (.goto 10, 3) := by decide +kernel
theorem dG_seenFrom_60 : decode cG_seenFrom 60 = .ok (.iload_n 3, 1) := by decide +kernel
theorem dG_seenFrom_61 : decode cG_seenFrom 61 = .ok (.iconst 1, 1) := by decide +kernel
theorem dG_seenFrom_62 : decode cG_seenFrom 62 = .ok (.iload 4, 2) := by decide +kernel
theorem dG_seenFrom_64 : decode cG_seenFrom 64 = .ok (.ishl, 1) := by decide +kernel
theorem dG_seenFrom_65 : decode cG_seenFrom 65 = .ok (.ior, 1) := by decide +kernel
theorem dG_seenFrom_66 : decode cG_seenFrom 66 = .ok (.istore_n 3, 1) := by decide +kernel
theorem dG_seenFrom_67 : decode cG_seenFrom 67 = .ok (.iinc 4 1, 3) := by decide +kernel
theorem dG_seenFrom_70 : decode cG_seenFrom 70 = .ok (.goto (-59), 3) := by decide +kernel
theorem dG_seenFrom_73 : decode cG_seenFrom 73 = .ok (.iload_n 3, 1) := by decide +kernel
theorem dG_seenFrom_74 : decode cG_seenFrom 74 = .ok (.ireturn, 1) := by decide +kernel
theorem kG_54 : x_kSN "ActSurgery$Graph" 54 yA_has cA_has 2 (some .boolean) 2 "ActSurgery" := ⟨tw_1_168, tw_1_169, tw_1_1, (List.mem_of_getElem? (i := 6) rfl), (by decide +kernel)⟩
def fG_seenFrom_11 (w : x_W) : Nat → Nat → Int32 → Int32 → Int32 → Option Int32
  | 0, _, _, _, _ => none
  | n + 1, v0, v2, v3, v4 =>
    (x_fr w v0 2 0).bind fun t1 =>
    (x_fi w t1 1 0).bind fun t2 =>
    if t2 ≤ v4 then
      some v3
    else
      (x_fr w t1 1 1).bind fun t4 =>
      (x_ai w t4 v4).bind fun t5 =>
      if (t5 &&& v2) = (0 : Int32) then
        fG_seenFrom_11 w n v0 v2 v3 (v4 + (1 : Int32))
      else
        (x_fi w v0 2 2).bind fun t7 =>
        if (fA_has t7 v4) = (0 : Int32) then
          fG_seenFrom_11 w n v0 v2 (v3 ||| ((1 : Int32) <<< (v4 &&& 31))) (v4 + (1 : Int32))
        else
          fG_seenFrom_11 w n v0 (v2 ||| ((1 : Int32) <<< (v4 &&& 31))) v3 (v4 + (1 : Int32))
def fG_seenFrom (w : x_W) (v0 : Nat) (v1 : Int32) : Option Int32 :=
  fG_seenFrom_11 w x_F v0 ((1 : Int32) <<< (v1 &&& 31)) (0 : Int32) (v1 + (1 : Int32))
set_option maxHeartbeats 4000000 in
set_option maxRecDepth 100000 in
theorem lG_seenFrom_11 (d : Nat) (hd : 2 ≤ d) {K : Option Value → x_W → Prop} {r : Int32} {w : x_W} (hK : K (some (.int r)) w) : ∀ (n : Nat) (v0 : Nat) (v2 : Int32) (v3 : Int32) (v4 : Int32), fG_seenFrom_11 w n v0 v2 v3 v4 = some r → x_G none yG_seenFrom cG_seenFrom 5 (some .int) (x_room d 0 0) (x_QM K 0 0) 11 [some (.ref v0), none, some (.int v2), some (.int v3), some (.int v4)] [] w 0 0 := by
  intro n
  induction n with
  | zero => intro v0 v2 v3 v4 h; rw [fG_seenFrom_11] at h; cases h
  | succ n ih =>
    intro v0 v2 v3 v4 h
    rw [fG_seenFrom_11] at h
    refine g_iload 13 dG_seenFrom_11 rfl rfl ?_
    refine g_aload_n 14 (i := 0) dG_seenFrom_13 rfl rfl rfl ?_
    obtain ⟨t1, e1, h⟩ := x_bind h
    refine g_getfR 17 2 0 dG_seenFrom_14 rfl x_in2 tw_1_56 rfl (by decide) e1 ?_
    obtain ⟨t2, e2, h⟩ := x_bind h
    refine g_getfI 20 1 0 dG_seenFrom_17 rfl x_in1 tw_1_32 rfl (by decide) e2 ?_
    by_cases c3 : t2 ≤ v4
    · rw [if_pos c3] at h
      refine g_icmp_ge_t 73 dG_seenFrom_20 (by decide) c3 ?_
      refine g_iload_n 74 (i := 3) dG_seenFrom_73 rfl rfl rfl ?_
      obtain rfl := Option.some.inj h
      exact g_iret rfl dG_seenFrom_74 hK
    · rw [if_neg c3] at h
      refine g_icmp_ge_f 23 73 dG_seenFrom_20 (by decide) rfl c3 ?_
      refine g_aload_n 24 (i := 0) dG_seenFrom_23 rfl rfl rfl ?_
      refine g_getfR 27 2 0 dG_seenFrom_24 rfl x_in2 tw_1_56 rfl (by decide) e1 ?_
      obtain ⟨t4, e4, h⟩ := x_bind h
      refine g_getfR 30 1 1 dG_seenFrom_27 rfl x_in1 tw_1_37 rfl (by decide) e4 ?_
      refine g_iload 32 dG_seenFrom_30 rfl rfl ?_
      obtain ⟨t5, e5, h⟩ := x_bind h
      refine g_iald 33 dG_seenFrom_32 rfl e5 ?_
      refine g_iload_n 34 (i := 2) dG_seenFrom_33 rfl rfl rfl ?_
      refine g_iand 35 dG_seenFrom_34 rfl ?_
      by_cases c6 : (t5 &&& v2) = (0 : Int32)
      · rw [if_pos c6] at h
        refine g_if_eq_t 67 dG_seenFrom_35 (by decide) c6 ?_
        refine g_iinc 70 [some (.ref v0), none, some (.int v2), some (.int v3), some (.int (v4 + (1 : Int32)))] dG_seenFrom_67 rfl rfl (x_inc (1 : Int32) (by decide)) rfl (by decide) ?_
        refine g_goto 11 dG_seenFrom_70 (by decide) ?_
        exact ih _ _ _ _ h
      · rw [if_neg c6] at h
        refine g_if_eq_f 38 67 dG_seenFrom_35 (by decide) rfl c6 ?_
        refine g_aload_n 39 (i := 0) dG_seenFrom_38 rfl rfl rfl ?_
        obtain ⟨t7, e7, h⟩ := x_bind h
        refine g_getfI 42 2 2 dG_seenFrom_39 rfl x_in2 tw_1_59 rfl (by decide) e7 ?_
        refine g_iload 44 dG_seenFrom_42 rfl rfl ?_
        refine g_cSN 47 (some (.int (fA_has t7 v4))) w [.int t7, .int v4] [] dG_seenFrom_44 rfl (fun _ hK2 => mA_has (d - 1) (by omega) rfl hK2) kG_54 (x_rm (Nat.le_trans (by decide) hd) (by decide)) ⟨Nat.zero_le _, Nat.zero_le _⟩ (Nat.le_of_ble_eq_true rfl) rfl ?_
        by_cases c8 : (fA_has t7 v4) = (0 : Int32)
        · rw [if_pos c8] at h
          refine g_if_eq_t 60 dG_seenFrom_47 (by decide) c8 ?_
          refine g_iload_n 61 (i := 3) dG_seenFrom_60 rfl rfl rfl ?_
          refine g_iconst 62 (1 : Int32) dG_seenFrom_61 rfl (by decide) ?_
          refine g_iload 64 dG_seenFrom_62 rfl rfl ?_
          refine g_ishl 65 dG_seenFrom_64 rfl ?_
          refine g_ior 66 dG_seenFrom_65 rfl ?_
          refine g_istore_n 67 (i := 3) [some (.ref v0), none, some (.int v2), some (.int (v3 ||| ((1 : Int32) <<< (v4 &&& 31)))), some (.int v4)] dG_seenFrom_66 rfl rfl rfl (by decide) ?_
          refine g_iinc 70 [some (.ref v0), none, some (.int v2), some (.int (v3 ||| ((1 : Int32) <<< (v4 &&& 31)))), some (.int (v4 + (1 : Int32)))] dG_seenFrom_67 rfl rfl (x_inc (1 : Int32) (by decide)) rfl (by decide) ?_
          refine g_goto 11 dG_seenFrom_70 (by decide) ?_
          exact ih _ _ _ _ h
        · rw [if_neg c8] at h
          refine g_if_eq_f 50 60 dG_seenFrom_47 (by decide) rfl c8 ?_
          refine g_iload_n 51 (i := 2) dG_seenFrom_50 rfl rfl rfl ?_
          refine g_iconst 52 (1 : Int32) dG_seenFrom_51 rfl (by decide) ?_
          refine g_iload 54 dG_seenFrom_52 rfl rfl ?_
          refine g_ishl 55 dG_seenFrom_54 rfl ?_
          refine g_ior 56 dG_seenFrom_55 rfl ?_
          refine g_istore_n 57 (i := 2) [some (.ref v0), none, some (.int (v2 ||| ((1 : Int32) <<< (v4 &&& 31)))), some (.int v3), some (.int v4)] dG_seenFrom_56 rfl rfl rfl (by decide) ?_
          refine g_goto 67 dG_seenFrom_57 (by decide) ?_
          refine g_iinc 70 [some (.ref v0), none, some (.int (v2 ||| ((1 : Int32) <<< (v4 &&& 31)))), some (.int v3), some (.int (v4 + (1 : Int32)))] dG_seenFrom_67 rfl rfl (x_inc (1 : Int32) (by decide)) rfl (by decide) ?_
          refine g_goto 11 dG_seenFrom_70 (by decide) ?_
          exact ih _ _ _ _ h
set_option maxHeartbeats 4000000 in
set_option maxRecDepth 100000 in
theorem mG_seenFrom (d : Nat) (hd : 2 ≤ d) {K : Option Value → x_W → Prop} {w : x_W} {v0 : Nat} {v1 : Int32} {r : Int32} (h : fG_seenFrom w v0 v1 = some r) (hK : K (some (.int r)) w) : x_M yG_seenFrom cG_seenFrom 5 (some .int) d 0 0 [.ref v0, .int v1] w K := by
  refine x_M.of [some (.ref v0), some (.int v1), none, none, none] (by decide) rfl (Nat.le_of_ble_eq_true rfl) ?_
  unfold fG_seenFrom at h
  refine g_iconst 1 (1 : Int32) dG_seenFrom_0 rfl (by decide) ?_
  refine g_iload_n 2 (i := 1) dG_seenFrom_1 rfl rfl rfl ?_
  refine g_ishl 3 dG_seenFrom_2 rfl ?_
  refine g_istore_n 4 (i := 2) [some (.ref v0), some (.int v1), some (.int ((1 : Int32) <<< (v1 &&& 31))), none, none] dG_seenFrom_3 rfl rfl rfl (by decide) ?_
  refine g_iconst 5 (0 : Int32) dG_seenFrom_4 rfl (by decide) ?_
  refine g_istore_n 6 (i := 3) [some (.ref v0), some (.int v1), some (.int ((1 : Int32) <<< (v1 &&& 31))), some (.int (0 : Int32)), none] dG_seenFrom_5 rfl rfl rfl (by decide) ?_
  refine g_iload_n 7 (i := 1) dG_seenFrom_6 rfl rfl rfl ?_
  refine g_iconst 8 (1 : Int32) dG_seenFrom_7 rfl (by decide) ?_
  refine g_iadd 9 dG_seenFrom_8 rfl ?_
  refine g_istore 11 [some (.ref v0), some (.int v1), some (.int ((1 : Int32) <<< (v1 &&& 31))), some (.int (0 : Int32)), some (.int (v1 + (1 : Int32)))] dG_seenFrom_9 rfl rfl (by decide) ?_
  refine g_less [some (.ref v0), none, some (.int ((1 : Int32) <<< (v1 &&& 31))), some (.int (0 : Int32)), some (.int (v1 + (1 : Int32)))] ⟨rfl, rfl, rfl, rfl, trivial⟩ ?_
  exact lG_seenFrom_11 d hd hK x_F _ _ _ _ h
/-! ActSurgery$Graph.boundTo(I)I: level P -/
theorem dG_boundTo_0 : decode cG_boundTo 0 = .ok (.iconst 0, 1) := by decide +kernel
theorem dG_boundTo_1 : decode cG_boundTo 1 = .ok (.istore_n 2, 1) := by decide +kernel
theorem dG_boundTo_2 : decode cG_boundTo 2 = .ok (.iconst 0, 1) := by decide +kernel
theorem dG_boundTo_3 : decode cG_boundTo 3 = .ok (.istore_n 3, 1) := by decide +kernel
theorem dG_boundTo_4 : decode cG_boundTo 4 = .ok (.iload_n 3, 1) := by decide +kernel
theorem dG_boundTo_5 : decode cG_boundTo 5 = .ok (.aload_n 0, 1) := by decide +kernel
theorem dG_boundTo_6 : decode cG_boundTo 6 = .ok (.getfield 12, 3) := by decide +kernel
theorem dG_boundTo_9 : decode cG_boundTo 9 = .ok (.getfield 26, 3) := by decide +kernel
theorem dG_boundTo_12 : decode cG_boundTo 12 = .ok (.if_icmp .ge 43, 3) := by decide +kernel
theorem dG_boundTo_15 : decode cG_boundTo 15 = .ok (.aload_n 0, 1) := by decide +kernel
theorem dG_boundTo_16 : decode cG_boundTo 16 = .ok (.getfield 30, 3) := by decide +kernel
theorem dG_boundTo_19 : decode cG_boundTo 19 = .ok (.iload_n 3, 1) := by decide +kernel
theorem dG_boundTo_20 : decode cG_boundTo 20 = .ok (.invokestatic 54, 3) := by decide +kernel
theorem dG_boundTo_23 : decode cG_boundTo 23 = .ok (.ifCond .eq 26, 3) := by decide +kernel
theorem dG_boundTo_26 : decode cG_boundTo 26 = .ok (.aload_n 0, 1) := by decide +kernel
theorem dG_boundTo_27 : decode cG_boundTo 27 = .ok (.iload_n 3, 1) := by decide +kernel
theorem dG_boundTo_28 : decode cG_boundTo 28 = .ok (.invokevirtual 62, 3) := by decide +kernel
theorem dG_boundTo_31 : decode cG_boundTo 31 = .ok (.istore 4, 2) := by decide +kernel
theorem dG_boundTo_33 : decode cG_boundTo 33 = .ok (.iload_n 2, 1) := by decide +kernel
theorem dG_boundTo_34 : decode cG_boundTo 34 = .ok (.iload 4, 2) := by decide +kernel
theorem dG_boundTo_36 : decode cG_boundTo 36 = .ok (.iload_n 1, 1) := by decide +kernel
theorem dG_boundTo_37 : decode cG_boundTo 37 = .ok (.iand, 1) := by decide +kernel
theorem dG_boundTo_38 : decode cG_boundTo 38 = .ok (.ifCond .eq 8, 3) := by decide +kernel
theorem dG_boundTo_41 : decode cG_boundTo 41 = .ok (.iload 4, 2) := by decide +kernel
theorem dG_boundTo_43 : decode cG_boundTo 43 = .ok (.goto 4, 3) := by decide +kernel
theorem dG_boundTo_46 : decode cG_boundTo 46 = .ok (.iconst 0, 1) := by decide +kernel
theorem dG_boundTo_47 : decode cG_boundTo 47 = .ok (.ior, 1) := by decide +kernel
theorem dG_boundTo_48 : decode cG_boundTo 48 = .ok (.istore_n 2, 1) := by decide +kernel
theorem dG_boundTo_49 : decode cG_boundTo 49 = .ok (.iinc 3 1, 3) := by decide +kernel
theorem dG_boundTo_52 : decode cG_boundTo 52 = .ok (.goto (-48), 3) := by decide +kernel
theorem dG_boundTo_55 : decode cG_boundTo 55 = .ok (.iload_n 2, 1) := by decide +kernel
theorem dG_boundTo_56 : decode cG_boundTo 56 = .ok (.ireturn, 1) := by decide +kernel
theorem tw_2_0 : (Jvm.Cond.instanceMethod ({ cls := "ActSurgery$Graph", name := "seenFrom", desc := "(I)I" } : Jvm.MethodName)) ∈ x_GT := x_t2 0 rfl rfl
theorem tw_2_1 : (Jvm.Cond.selects "ActSurgery$Graph" ({ cls := "ActSurgery$Graph", name := "seenFrom", desc := "(I)I" } : Jvm.MethodName) ({ cls := "ActSurgery$Graph", name := "seenFrom", desc := "(I)I" } : Jvm.MethodName)) ∈ x_GT := x_t2 1 rfl rfl
theorem tw_2_2 : (Jvm.Cond.code ({ cls := "ActSurgery$Graph", name := "seenFrom", desc := "(I)I" } : Jvm.MethodName) prog_3_method_7_code (5 : Nat) (Option.some Jvm.ClassFile.FieldType.int)) ∈ x_GT := x_t2 2 rfl rfl
theorem tw_1_239 : (Jvm.Cond.methodLink "ActSurgery$Graph" (62 : Nat) ({ cls := "ActSurgery$Graph", name := "seenFrom", desc := "(I)I" } : Jvm.MethodName)) ∈ x_GT := x_t1 239 rfl rfl
theorem kG_62 : x_kV "ActSurgery$Graph" 62 yG_seenFrom cG_seenFrom 5 (some .int) 1 2 := ⟨tw_2_0, tw_2_1, tw_2_2, tw_1_2, tw_1_239, (by decide +kernel), rfl⟩
def fG_boundTo_4 (w : x_W) : Nat → Nat → Int32 → Int32 → Int32 → Option Int32
  | 0, _, _, _, _ => none
  | n + 1, v0, v1, v2, v3 =>
    (x_fr w v0 2 0).bind fun t1 =>
    (x_fi w t1 1 0).bind fun t2 =>
    if t2 ≤ v3 then
      some v2
    else
      (x_fi w v0 2 2).bind fun t4 =>
      if (fA_has t4 v3) = (0 : Int32) then
        fG_boundTo_4 w n v0 v1 v2 (v3 + (1 : Int32))
      else
        (fG_seenFrom w v0 v3).bind fun t6 =>
        if (t6 &&& v1) = (0 : Int32) then
          fG_boundTo_4 w n v0 v1 (v2 ||| (0 : Int32)) (v3 + (1 : Int32))
        else
          fG_boundTo_4 w n v0 v1 (v2 ||| t6) (v3 + (1 : Int32))
def fG_boundTo (w : x_W) (v0 : Nat) (v1 : Int32) : Option Int32 :=
  fG_boundTo_4 w x_F v0 v1 (0 : Int32) (0 : Int32)
set_option maxHeartbeats 4000000 in
set_option maxRecDepth 100000 in
theorem lG_boundTo_4 (d : Nat) (hd : 3 ≤ d) {K : Option Value → x_W → Prop} {r : Int32} {w : x_W} (hK : K (some (.int r)) w) : ∀ (n : Nat) (v0 : Nat) (v1 : Int32) (v2 : Int32) (v3 : Int32), fG_boundTo_4 w n v0 v1 v2 v3 = some r → x_G none yG_boundTo cG_boundTo 5 (some .int) (x_room d 0 0) (x_QM K 0 0) 4 [some (.ref v0), some (.int v1), some (.int v2), some (.int v3), none] [] w 0 0 := by
  intro n
  induction n with
  | zero => intro v0 v1 v2 v3 h; rw [fG_boundTo_4] at h; cases h
  | succ n ih =>
    intro v0 v1 v2 v3 h
    rw [fG_boundTo_4] at h
    refine g_iload_n 5 (i := 3) dG_boundTo_4 rfl rfl rfl ?_
    refine g_aload_n 6 (i := 0) dG_boundTo_5 rfl rfl rfl ?_
    obtain ⟨t1, e1, h⟩ := x_bind h
    refine g_getfR 9 2 0 dG_boundTo_6 rfl x_in2 tw_1_56 rfl (by decide) e1 ?_
    obtain ⟨t2, e2, h⟩ := x_bind h
    refine g_getfI 12 1 0 dG_boundTo_9 rfl x_in1 tw_1_32 rfl (by decide) e2 ?_
    by_cases c3 : t2 ≤ v3
    · rw [if_pos c3] at h
      refine g_icmp_ge_t 55 dG_boundTo_12 (by decide) c3 ?_
      refine g_iload_n 56 (i := 2) dG_boundTo_55 rfl rfl rfl ?_
      obtain rfl := Option.some.inj h
      exact g_iret rfl dG_boundTo_56 hK
    · rw [if_neg c3] at h
      refine g_icmp_ge_f 15 55 dG_boundTo_12 (by decide) rfl c3 ?_
      refine g_aload_n 16 (i := 0) dG_boundTo_15 rfl rfl rfl ?_
      obtain ⟨t4, e4, h⟩ := x_bind h
      refine g_getfI 19 2 2 dG_boundTo_16 rfl x_in2 tw_1_59 rfl (by decide) e4 ?_
      refine g_iload_n 20 (i := 3) dG_boundTo_19 rfl rfl rfl ?_
      refine g_cSN 23 (some (.int (fA_has t4 v3))) w [.int t4, .int v3] [] dG_boundTo_20 rfl (fun _ hK2 => mA_has (d - 1) (by omega) rfl hK2) kG_54 (x_rm (Nat.le_trans (by decide) hd) (by decide)) ⟨Nat.zero_le _, Nat.zero_le _⟩ (Nat.le_of_ble_eq_true rfl) rfl ?_
      by_cases c5 : (fA_has t4 v3) = (0 : Int32)
      · rw [if_pos c5] at h
        refine g_if_eq_t 49 dG_boundTo_23 (by decide) c5 ?_
        refine g_iinc 52 [some (.ref v0), some (.int v1), some (.int v2), some (.int (v3 + (1 : Int32))), none] dG_boundTo_49 rfl rfl (x_inc (1 : Int32) (by decide)) rfl (by decide) ?_
        refine g_goto 4 dG_boundTo_52 (by decide) ?_
        exact ih _ _ _ _ h
      · rw [if_neg c5] at h
        refine g_if_eq_f 26 49 dG_boundTo_23 (by decide) rfl c5 ?_
        refine g_aload_n 27 (i := 0) dG_boundTo_26 rfl rfl rfl ?_
        refine g_iload_n 28 (i := 3) dG_boundTo_27 rfl rfl rfl ?_
        obtain ⟨t6, e6, h⟩ := x_bind h
        refine g_cV 31 (some (.int t6)) w [.int v3] [] dG_boundTo_28 rfl (fun _ hK2 => mG_seenFrom (d - 1) (by omega) e6 hK2) (x_fi_ob e4) kG_62 (x_rm (Nat.le_trans (by decide) hd) (by decide)) ⟨Nat.zero_le _, Nat.zero_le _⟩ (Nat.le_of_ble_eq_true rfl) rfl ?_
        refine g_istore 33 [some (.ref v0), some (.int v1), some (.int v2), some (.int v3), some (.int t6)] dG_boundTo_31 rfl rfl (by decide) ?_
        refine g_iload_n 34 (i := 2) dG_boundTo_33 rfl rfl rfl ?_
        refine g_iload 36 dG_boundTo_34 rfl rfl ?_
        refine g_iload_n 37 (i := 1) dG_boundTo_36 rfl rfl rfl ?_
        refine g_iand 38 dG_boundTo_37 rfl ?_
        by_cases c7 : (t6 &&& v1) = (0 : Int32)
        · rw [if_pos c7] at h
          refine g_if_eq_t 46 dG_boundTo_38 (by decide) c7 ?_
          refine g_iconst 47 (0 : Int32) dG_boundTo_46 rfl (by decide) ?_
          refine g_ior 48 dG_boundTo_47 rfl ?_
          refine g_istore_n 49 (i := 2) [some (.ref v0), some (.int v1), some (.int (v2 ||| (0 : Int32))), some (.int v3), some (.int t6)] dG_boundTo_48 rfl rfl rfl (by decide) ?_
          refine g_iinc 52 [some (.ref v0), some (.int v1), some (.int (v2 ||| (0 : Int32))), some (.int (v3 + (1 : Int32))), some (.int t6)] dG_boundTo_49 rfl rfl (x_inc (1 : Int32) (by decide)) rfl (by decide) ?_
          refine g_goto 4 dG_boundTo_52 (by decide) ?_
          refine g_less [some (.ref v0), some (.int v1), some (.int (v2 ||| (0 : Int32))), some (.int (v3 + (1 : Int32))), none] ⟨rfl, rfl, rfl, rfl, trivial⟩ ?_
          exact ih _ _ _ _ h
        · rw [if_neg c7] at h
          refine g_if_eq_f 41 46 dG_boundTo_38 (by decide) rfl c7 ?_
          refine g_iload 43 dG_boundTo_41 rfl rfl ?_
          refine g_goto 47 dG_boundTo_43 (by decide) ?_
          refine g_ior 48 dG_boundTo_47 rfl ?_
          refine g_istore_n 49 (i := 2) [some (.ref v0), some (.int v1), some (.int (v2 ||| t6)), some (.int v3), some (.int t6)] dG_boundTo_48 rfl rfl rfl (by decide) ?_
          refine g_iinc 52 [some (.ref v0), some (.int v1), some (.int (v2 ||| t6)), some (.int (v3 + (1 : Int32))), some (.int t6)] dG_boundTo_49 rfl rfl (x_inc (1 : Int32) (by decide)) rfl (by decide) ?_
          refine g_goto 4 dG_boundTo_52 (by decide) ?_
          refine g_less [some (.ref v0), some (.int v1), some (.int (v2 ||| t6)), some (.int (v3 + (1 : Int32))), none] ⟨rfl, rfl, rfl, rfl, trivial⟩ ?_
          exact ih _ _ _ _ h
set_option maxHeartbeats 4000000 in
set_option maxRecDepth 100000 in
theorem mG_boundTo (d : Nat) (hd : 3 ≤ d) {K : Option Value → x_W → Prop} {w : x_W} {v0 : Nat} {v1 : Int32} {r : Int32} (h : fG_boundTo w v0 v1 = some r) (hK : K (some (.int r)) w) : x_M yG_boundTo cG_boundTo 5 (some .int) d 0 0 [.ref v0, .int v1] w K := by
  refine x_M.of [some (.ref v0), some (.int v1), none, none, none] (by decide) rfl (Nat.le_of_ble_eq_true rfl) ?_
  unfold fG_boundTo at h
  refine g_iconst 1 (0 : Int32) dG_boundTo_0 rfl (by decide) ?_
  refine g_istore_n 2 (i := 2) [some (.ref v0), some (.int v1), some (.int (0 : Int32)), none, none] dG_boundTo_1 rfl rfl rfl (by decide) ?_
  refine g_iconst 3 (0 : Int32) dG_boundTo_2 rfl (by decide) ?_
  refine g_istore_n 4 (i := 3) [some (.ref v0), some (.int v1), some (.int (0 : Int32)), some (.int (0 : Int32)), none] dG_boundTo_3 rfl rfl rfl (by decide) ?_
  exact lG_boundTo_4 d hd hK x_F _ _ _ _ h
/-! ActSurgery$Graph.clumpOf(I)I: level P -/
theorem dG_clumpOf_0 : decode cG_clumpOf 0 = .ok (.aload_n 0, 1) := by decide +kernel
theorem dG_clumpOf_1 : decode cG_clumpOf 1 = .ok (.getfield 30, 3) := by decide +kernel
theorem dG_clumpOf_4 : decode cG_clumpOf 4 = .ok (.iload_n 1, 1) := by decide +kernel
theorem dG_clumpOf_5 : decode cG_clumpOf 5 = .ok (.invokestatic 54, 3) := by decide +kernel
theorem dG_clumpOf_8 : decode cG_clumpOf 8 = .ok (.ifCond .eq 5, 3) := by decide +kernel
theorem dG_clumpOf_11 : decode cG_clumpOf 11 = .ok (.iconst 0, 1) := by decide +kernel
theorem dG_clumpOf_12 : decode cG_clumpOf 12 = .ok (.ireturn, 1) := by decide +kernel
theorem dG_clumpOf_13 : decode cG_clumpOf 13 = .ok (.iconst 1, 1) := by decide +kernel
theorem dG_clumpOf_14 : decode cG_clumpOf 14 = .ok (.iload_n 1, 1) := by decide +kernel
theorem dG_clumpOf_15 : decode cG_clumpOf 15 = .ok (.ishl, 1) := by decide +kernel
theorem dG_clumpOf_16 : decode cG_clumpOf 16 = .ok (.istore_n 2, 1) := by decide +kernel
theorem dG_clumpOf_17 : decode cG_clumpOf 17 = .ok (.iconst 0, 1) := by decide +kernel
theorem dG_clumpOf_18 : decode cG_clumpOf 18 = .ok (.istore_n 3, 1) := by decide +kernel
theorem dG_clumpOf_19 : decode cG_clumpOf 19 = .ok (.iload_n 3, 1) := by decide +kernel
theorem dG_clumpOf_20 : decode cG_clumpOf 20 = .ok (.aload_n 0, 1) := by decide +kernel
theorem dG_clumpOf_21 : decode cG_clumpOf 21 = .ok (.getfield 12, 3) := by decide +kernel
theorem dG_clumpOf_24 : decode cG_clumpOf 24 = .ok (.getfield 26, 3) := by decide +kernel
theorem dG_clumpOf_27 : decode cG_clumpOf 27 = .ok (.if_icmp .ge 17, 3) := by decide +kernel
theorem dG_clumpOf_30 : decode cG_clumpOf 30 = .ok (.iload_n 2, 1) := by decide +kernel
theorem dG_clumpOf_31 : decode cG_clumpOf 31 = .ok (.aload_n 0, 1) := by decide +kernel
theorem dG_clumpOf_32 : decode cG_clumpOf 32 = .ok (.iload_n 2, 1) := by decide +kernel
theorem dG_clumpOf_33 : decode cG_clumpOf 33 = .ok (.invokevirtual 58, 3) := by decide +kernel
theorem dG_clumpOf_36 : decode cG_clumpOf 36 = .ok (.ior, 1) := by decide +kernel
theorem dG_clumpOf_37 : decode cG_clumpOf 37 = .ok (.istore_n 2, 1) := by decide +kernel
theorem dG_clumpOf_38 : decode cG_clumpOf 38 = .ok (.iinc 3 1, 3) := by decide +kernel
theorem dG_clumpOf_41 : decode cG_clumpOf 41 = .ok (.goto (-22), 3) := by decide +kernel
theorem dG_clumpOf_44 : decode cG_clumpOf 44 = .ok (.iload_n 2, 1) := by decide +kernel
theorem dG_clumpOf_45 : decode cG_clumpOf 45 = .ok (.ireturn, 1) := by decide +kernel
theorem tw_1_237 : (Jvm.Cond.instanceMethod ({ cls := "ActSurgery$Graph", name := "boundTo", desc := "(I)I" } : Jvm.MethodName)) ∈ x_GT := x_t1 237 rfl rfl
theorem tws_6 : (Jvm.Cond.selects "ActSurgery$Graph" ({ cls := "ActSurgery$Graph", name := "boundTo", desc := "(I)I" } : Jvm.MethodName) ({ cls := "ActSurgery$Graph", name := "boundTo", desc := "(I)I" } : Jvm.MethodName)) ∈ x_GT := x_ts 6 rfl rfl
theorem tw_1_238 : (Jvm.Cond.code ({ cls := "ActSurgery$Graph", name := "boundTo", desc := "(I)I" } : Jvm.MethodName) prog_3_method_9_code (5 : Nat) (Option.some Jvm.ClassFile.FieldType.int)) ∈ x_GT := x_t1 238 rfl rfl
theorem tw_1_235 : (Jvm.Cond.methodLink "ActSurgery$Graph" (58 : Nat) ({ cls := "ActSurgery$Graph", name := "boundTo", desc := "(I)I" } : Jvm.MethodName)) ∈ x_GT := x_t1 235 rfl rfl
theorem kG_58 : x_kV "ActSurgery$Graph" 58 yG_boundTo cG_boundTo 5 (some .int) 1 2 := ⟨tw_1_237, tws_6, tw_1_238, tw_1_2, tw_1_235, (by decide +kernel), rfl⟩
def fG_clumpOf_19 (w : x_W) : Nat → Nat → Int32 → Int32 → Option Int32
  | 0, _, _, _ => none
  | n + 1, v0, v2, v3 =>
    (x_fr w v0 2 0).bind fun t1 =>
    (x_fi w t1 1 0).bind fun t2 =>
    if t2 ≤ v3 then
      some v2
    else
      (fG_boundTo w v0 v2).bind fun t4 =>
      fG_clumpOf_19 w n v0 (v2 ||| t4) (v3 + (1 : Int32))
def fG_clumpOf (w : x_W) (v0 : Nat) (v1 : Int32) : Option Int32 :=
  (x_fi w v0 2 2).bind fun t1 =>
  if (fA_has t1 v1) = (0 : Int32) then
    fG_clumpOf_19 w x_F v0 ((1 : Int32) <<< (v1 &&& 31)) (0 : Int32)
  else
    some (0 : Int32)
set_option maxHeartbeats 4000000 in
set_option maxRecDepth 100000 in
theorem lG_clumpOf_19 (d : Nat) (hd : 4 ≤ d) {K : Option Value → x_W → Prop} {r : Int32} {w : x_W} (hK : K (some (.int r)) w) : ∀ (n : Nat) (v0 : Nat) (v2 : Int32) (v3 : Int32), fG_clumpOf_19 w n v0 v2 v3 = some r → x_G none yG_clumpOf cG_clumpOf 4 (some .int) (x_room d 0 0) (x_QM K 0 0) 19 [some (.ref v0), none, some (.int v2), some (.int v3)] [] w 0 0 := by
  intro n
  induction n with
  | zero => intro v0 v2 v3 h; rw [fG_clumpOf_19] at h; cases h
  | succ n ih =>
    intro v0 v2 v3 h
    rw [fG_clumpOf_19] at h
    refine g_iload_n 20 (i := 3) dG_clumpOf_19 rfl rfl rfl ?_
    refine g_aload_n 21 (i := 0) dG_clumpOf_20 rfl rfl rfl ?_
    obtain ⟨t1, e1, h⟩ := x_bind h
    refine g_getfR 24 2 0 dG_clumpOf_21 rfl x_in2 tw_1_56 rfl (by decide) e1 ?_
    obtain ⟨t2, e2, h⟩ := x_bind h
    refine g_getfI 27 1 0 dG_clumpOf_24 rfl x_in1 tw_1_32 rfl (by decide) e2 ?_
    by_cases c3 : t2 ≤ v3
    · rw [if_pos c3] at h
      refine g_icmp_ge_t 44 dG_clumpOf_27 (by decide) c3 ?_
      refine g_iload_n 45 (i := 2) dG_clumpOf_44 rfl rfl rfl ?_
      obtain rfl := Option.some.inj h
      exact g_iret rfl dG_clumpOf_45 hK
    · rw [if_neg c3] at h
      refine g_icmp_ge_f 30 44 dG_clumpOf_27 (by decide) rfl c3 ?_
      refine g_iload_n 31 (i := 2) dG_clumpOf_30 rfl rfl rfl ?_
      refine g_aload_n 32 (i := 0) dG_clumpOf_31 rfl rfl rfl ?_
      refine g_iload_n 33 (i := 2) dG_clumpOf_32 rfl rfl rfl ?_
      obtain ⟨t4, e4, h⟩ := x_bind h
      refine g_cV 36 (some (.int t4)) w [.int v2] [.int v2] dG_clumpOf_33 rfl (fun _ hK2 => mG_boundTo (d - 1) (by omega) e4 hK2) (x_fr_ob e1) kG_58 (x_rm (Nat.le_trans (by decide) hd) (by decide)) ⟨Nat.zero_le _, Nat.zero_le _⟩ (Nat.le_of_ble_eq_true rfl) rfl ?_
      refine g_ior 37 dG_clumpOf_36 rfl ?_
      refine g_istore_n 38 (i := 2) [some (.ref v0), none, some (.int (v2 ||| t4)), some (.int v3)] dG_clumpOf_37 rfl rfl rfl (by decide) ?_
      refine g_iinc 41 [some (.ref v0), none, some (.int (v2 ||| t4)), some (.int (v3 + (1 : Int32)))] dG_clumpOf_38 rfl rfl (x_inc (1 : Int32) (by decide)) rfl (by decide) ?_
      refine g_goto 19 dG_clumpOf_41 (by decide) ?_
      exact ih _ _ _ h
set_option maxHeartbeats 4000000 in
set_option maxRecDepth 100000 in
theorem mG_clumpOf (d : Nat) (hd : 4 ≤ d) {K : Option Value → x_W → Prop} {w : x_W} {v0 : Nat} {v1 : Int32} {r : Int32} (h : fG_clumpOf w v0 v1 = some r) (hK : K (some (.int r)) w) : x_M yG_clumpOf cG_clumpOf 4 (some .int) d 0 0 [.ref v0, .int v1] w K := by
  refine x_M.of [some (.ref v0), some (.int v1), none, none] (by decide) rfl (Nat.le_of_ble_eq_true rfl) ?_
  unfold fG_clumpOf at h
  refine g_aload_n 1 (i := 0) dG_clumpOf_0 rfl rfl rfl ?_
  obtain ⟨t1, e1, h⟩ := x_bind h
  refine g_getfI 4 2 2 dG_clumpOf_1 rfl x_in2 tw_1_59 rfl (by decide) e1 ?_
  refine g_iload_n 5 (i := 1) dG_clumpOf_4 rfl rfl rfl ?_
  refine g_cSN 8 (some (.int (fA_has t1 v1))) w [.int t1, .int v1] [] dG_clumpOf_5 rfl (fun _ hK2 => mA_has (d - 1) (by omega) rfl hK2) kG_54 (x_rm (Nat.le_trans (by decide) hd) (by decide)) ⟨Nat.zero_le _, Nat.zero_le _⟩ (Nat.le_of_ble_eq_true rfl) rfl ?_
  by_cases c2 : (fA_has t1 v1) = (0 : Int32)
  · rw [if_pos c2] at h
    refine g_if_eq_t 13 dG_clumpOf_8 (by decide) c2 ?_
    refine g_iconst 14 (1 : Int32) dG_clumpOf_13 rfl (by decide) ?_
    refine g_iload_n 15 (i := 1) dG_clumpOf_14 rfl rfl rfl ?_
    refine g_ishl 16 dG_clumpOf_15 rfl ?_
    refine g_istore_n 17 (i := 2) [some (.ref v0), some (.int v1), some (.int ((1 : Int32) <<< (v1 &&& 31))), none] dG_clumpOf_16 rfl rfl rfl (by decide) ?_
    refine g_iconst 18 (0 : Int32) dG_clumpOf_17 rfl (by decide) ?_
    refine g_istore_n 19 (i := 3) [some (.ref v0), some (.int v1), some (.int ((1 : Int32) <<< (v1 &&& 31))), some (.int (0 : Int32))] dG_clumpOf_18 rfl rfl rfl (by decide) ?_
    refine g_less [some (.ref v0), none, some (.int ((1 : Int32) <<< (v1 &&& 31))), some (.int (0 : Int32))] ⟨rfl, rfl, rfl, trivial⟩ ?_
    exact lG_clumpOf_19 d hd hK x_F _ _ _ h
  · rw [if_neg c2] at h
    refine g_if_eq_f 11 13 dG_clumpOf_8 (by decide) rfl c2 ?_
    refine g_iconst 12 (0 : Int32) dG_clumpOf_11 rfl (by decide) ?_
    obtain rfl := Option.some.inj h
    exact g_iret rfl dG_clumpOf_12 hK
/-! ActSurgery$Graph.howManyClumps()I: level P -/
theorem dG_howManyClumps_0 : decode cG_howManyClumps 0 = .ok (.iconst 0, 1) := by decide +kernel
theorem dG_howManyClumps_1 : decode cG_howManyClumps 1 = .ok (.istore_n 1, 1) := by decide +kernel
theorem dG_howManyClumps_2 : decode cG_howManyClumps 2 = .ok (.aload_n 0, 1) := by decide +kernel
theorem dG_howManyClumps_3 : decode cG_howManyClumps 3 = .ok (.getfield 30, 3) := by decide +kernel
theorem dG_howManyClumps_6 : decode cG_howManyClumps 6 = .ok (.istore_n 2, 1) := by decide +kernel
theorem dG_howManyClumps_7 : decode cG_howManyClumps 7 = .ok (.iconst 0, 1) := by decide +kernel
theorem dG_howManyClumps_8 : decode cG_howManyClumps 8 = .ok (.istore_n 3, 1) := by decide +kernel
theorem dG_howManyClumps_9 : decode cG_howManyClumps 9 = .ok (.iload_n 3, 1) := by decide +kernel
theorem dG_howManyClumps_10 : decode cG_howManyClumps 10 = .ok (.aload_n 0, 1) := by decide +kernel
theorem dG_howManyClumps_11 : decode cG_howManyClumps 11 = .ok (.getfield 12, 3) := by decide +kernel
theorem dG_howManyClumps_14 : decode cG_howManyClumps 14 = .ok (.getfield 26, 3) := by decide +kernel
theorem dG_howManyClumps_17 : decode cG_howManyClumps 17 = .ok (.if_icmp .ge 28, 3) := by decide +kernel
theorem dG_howManyClumps_20 : decode cG_howManyClumps 20 = .ok (.iload_n 2, 1) := by decide +kernel
theorem dG_howManyClumps_21 : decode cG_howManyClumps 21 = .ok (.iload_n 3, 1) := by decide +kernel
theorem dG_howManyClumps_22 : decode cG_howManyClumps 22 = .ok (.invokestatic 54, 3) := by decide +kernel
theorem dG_howManyClumps_25 : decode cG_howManyClumps 25 = .ok (.ifCond .ne 14, 3) := by decide +kernel
theorem dG_howManyClumps_28 : decode cG_howManyClumps 28 = .ok (.iinc 1 1, 3) := by decide +kernel
theorem dG_howManyClumps_31 : decode cG_howManyClumps 31 = .ok (.iload_n 2, 1) := by decide +kernel
theorem dG_howManyClumps_32 : decode cG_howManyClumps 32 = .ok (.aload_n 0, 1) := by decide +kernel
theorem dG_howManyClumps_33 : decode cG_howManyClumps 33 = .ok (.iload_n 3, 1) := by decide +kernel
theorem dG_howManyClumps_34 : decode cG_howManyClumps 34 = .ok (.invokevirtual 65, 3) := by decide +kernel
theorem dG_howManyClumps_37 : decode cG_howManyClumps 37 = .ok (.ior, 1) := by decide +kernel
theorem dG_howManyClumps_38 : decode cG_howManyClumps 38 = .ok (.istore_n 2, 1) := by decide +kernel
theorem dG_howManyClumps_39 : decode cG_howManyClumps 39 = .ok (.iinc 3 1, 3) := by decide +kernel
theorem dG_howManyClumps_42 : decode cG_howManyClumps 42 = .ok (.goto (-33), 3) := by decide +kernel
theorem dG_howManyClumps_45 : decode cG_howManyClumps 45 = .ok (.iload_n 1, 1) := by decide +kernel
theorem dG_howManyClumps_46 : decode cG_howManyClumps 46 = .ok (.ireturn, 1) := by decide +kernel
theorem tw_1_232 : (Jvm.Cond.instanceMethod ({ cls := "ActSurgery$Graph", name := "clumpOf", desc := "(I)I" } : Jvm.MethodName)) ∈ x_GT := x_t1 232 rfl rfl
theorem tw_1_233 : (Jvm.Cond.selects "ActSurgery$Graph" ({ cls := "ActSurgery$Graph", name := "clumpOf", desc := "(I)I" } : Jvm.MethodName) ({ cls := "ActSurgery$Graph", name := "clumpOf", desc := "(I)I" } : Jvm.MethodName)) ∈ x_GT := x_t1 233 rfl rfl
theorem tw_1_234 : (Jvm.Cond.code ({ cls := "ActSurgery$Graph", name := "clumpOf", desc := "(I)I" } : Jvm.MethodName) prog_3_method_8_code (4 : Nat) (Option.some Jvm.ClassFile.FieldType.int)) ∈ x_GT := x_t1 234 rfl rfl
theorem tw_1_231 : (Jvm.Cond.methodLink "ActSurgery$Graph" (65 : Nat) ({ cls := "ActSurgery$Graph", name := "clumpOf", desc := "(I)I" } : Jvm.MethodName)) ∈ x_GT := x_t1 231 rfl rfl
theorem kG_65 : x_kV "ActSurgery$Graph" 65 yG_clumpOf cG_clumpOf 4 (some .int) 1 2 := ⟨tw_1_232, tw_1_233, tw_1_234, tw_1_2, tw_1_231, (by decide +kernel), rfl⟩
def fG_howManyClumps_9 (w : x_W) : Nat → Nat → Int32 → Int32 → Int32 → Option Int32
  | 0, _, _, _, _ => none
  | n + 1, v0, v1, v2, v3 =>
    (x_fr w v0 2 0).bind fun t1 =>
    (x_fi w t1 1 0).bind fun t2 =>
    if t2 ≤ v3 then
      some v1
    else
      if (fA_has v2 v3) = (0 : Int32) then
        (fG_clumpOf w v0 v3).bind fun t5 =>
        fG_howManyClumps_9 w n v0 (v1 + (1 : Int32)) (v2 ||| t5) (v3 + (1 : Int32))
      else
        fG_howManyClumps_9 w n v0 v1 v2 (v3 + (1 : Int32))
def fG_howManyClumps (w : x_W) (v0 : Nat) : Option Int32 :=
  (x_fi w v0 2 2).bind fun t1 =>
  fG_howManyClumps_9 w x_F v0 (0 : Int32) t1 (0 : Int32)
set_option maxHeartbeats 4000000 in
set_option maxRecDepth 100000 in
theorem lG_howManyClumps_9 (d : Nat) (hd : 5 ≤ d) {K : Option Value → x_W → Prop} {r : Int32} {w : x_W} (hK : K (some (.int r)) w) : ∀ (n : Nat) (v0 : Nat) (v1 : Int32) (v2 : Int32) (v3 : Int32), fG_howManyClumps_9 w n v0 v1 v2 v3 = some r → x_G none yG_howManyClumps cG_howManyClumps 4 (some .int) (x_room d 0 0) (x_QM K 0 0) 9 [some (.ref v0), some (.int v1), some (.int v2), some (.int v3)] [] w 0 0 := by
  intro n
  induction n with
  | zero => intro v0 v1 v2 v3 h; rw [fG_howManyClumps_9] at h; cases h
  | succ n ih =>
    intro v0 v1 v2 v3 h
    rw [fG_howManyClumps_9] at h
    refine g_iload_n 10 (i := 3) dG_howManyClumps_9 rfl rfl rfl ?_
    refine g_aload_n 11 (i := 0) dG_howManyClumps_10 rfl rfl rfl ?_
    obtain ⟨t1, e1, h⟩ := x_bind h
    refine g_getfR 14 2 0 dG_howManyClumps_11 rfl x_in2 tw_1_56 rfl (by decide) e1 ?_
    obtain ⟨t2, e2, h⟩ := x_bind h
    refine g_getfI 17 1 0 dG_howManyClumps_14 rfl x_in1 tw_1_32 rfl (by decide) e2 ?_
    by_cases c3 : t2 ≤ v3
    · rw [if_pos c3] at h
      refine g_icmp_ge_t 45 dG_howManyClumps_17 (by decide) c3 ?_
      refine g_iload_n 46 (i := 1) dG_howManyClumps_45 rfl rfl rfl ?_
      obtain rfl := Option.some.inj h
      exact g_iret rfl dG_howManyClumps_46 hK
    · rw [if_neg c3] at h
      refine g_icmp_ge_f 20 45 dG_howManyClumps_17 (by decide) rfl c3 ?_
      refine g_iload_n 21 (i := 2) dG_howManyClumps_20 rfl rfl rfl ?_
      refine g_iload_n 22 (i := 3) dG_howManyClumps_21 rfl rfl rfl ?_
      refine g_cSN 25 (some (.int (fA_has v2 v3))) w [.int v2, .int v3] [] dG_howManyClumps_22 rfl (fun _ hK2 => mA_has (d - 1) (by omega) rfl hK2) kG_54 (x_rm (Nat.le_trans (by decide) hd) (by decide)) ⟨Nat.zero_le _, Nat.zero_le _⟩ (Nat.le_of_ble_eq_true rfl) rfl ?_
      by_cases c4 : (fA_has v2 v3) = (0 : Int32)
      · rw [if_pos c4] at h
        refine g_if_ne_f 28 39 dG_howManyClumps_25 (by decide) rfl c4 ?_
        refine g_iinc 31 [some (.ref v0), some (.int (v1 + (1 : Int32))), some (.int v2), some (.int v3)] dG_howManyClumps_28 rfl rfl (x_inc (1 : Int32) (by decide)) rfl (by decide) ?_
        refine g_iload_n 32 (i := 2) dG_howManyClumps_31 rfl rfl rfl ?_
        refine g_aload_n 33 (i := 0) dG_howManyClumps_32 rfl rfl rfl ?_
        refine g_iload_n 34 (i := 3) dG_howManyClumps_33 rfl rfl rfl ?_
        obtain ⟨t5, e5, h⟩ := x_bind h
        refine g_cV 37 (some (.int t5)) w [.int v3] [.int v2] dG_howManyClumps_34 rfl (fun _ hK2 => mG_clumpOf (d - 1) (by omega) e5 hK2) (x_fr_ob e1) kG_65 (x_rm (Nat.le_trans (by decide) hd) (by decide)) ⟨Nat.zero_le _, Nat.zero_le _⟩ (Nat.le_of_ble_eq_true rfl) rfl ?_
        refine g_ior 38 dG_howManyClumps_37 rfl ?_
        refine g_istore_n 39 (i := 2) [some (.ref v0), some (.int (v1 + (1 : Int32))), some (.int (v2 ||| t5)), some (.int v3)] dG_howManyClumps_38 rfl rfl rfl (by decide) ?_
        refine g_iinc 42 [some (.ref v0), some (.int (v1 + (1 : Int32))), some (.int (v2 ||| t5)), some (.int (v3 + (1 : Int32)))] dG_howManyClumps_39 rfl rfl (x_inc (1 : Int32) (by decide)) rfl (by decide) ?_
        refine g_goto 9 dG_howManyClumps_42 (by decide) ?_
        exact ih _ _ _ _ h
      · rw [if_neg c4] at h
        refine g_if_ne_t 39 dG_howManyClumps_25 (by decide) c4 ?_
        refine g_iinc 42 [some (.ref v0), some (.int v1), some (.int v2), some (.int (v3 + (1 : Int32)))] dG_howManyClumps_39 rfl rfl (x_inc (1 : Int32) (by decide)) rfl (by decide) ?_
        refine g_goto 9 dG_howManyClumps_42 (by decide) ?_
        exact ih _ _ _ _ h
set_option maxHeartbeats 4000000 in
set_option maxRecDepth 100000 in
theorem mG_howManyClumps (d : Nat) (hd : 5 ≤ d) {K : Option Value → x_W → Prop} {w : x_W} {v0 : Nat} {r : Int32} (h : fG_howManyClumps w v0 = some r) (hK : K (some (.int r)) w) : x_M yG_howManyClumps cG_howManyClumps 4 (some .int) d 0 0 [.ref v0] w K := by
  refine x_M.of [some (.ref v0), none, none, none] (by decide) rfl (Nat.le_of_ble_eq_true rfl) ?_
  unfold fG_howManyClumps at h
  refine g_iconst 1 (0 : Int32) dG_howManyClumps_0 rfl (by decide) ?_
  refine g_istore_n 2 (i := 1) [some (.ref v0), some (.int (0 : Int32)), none, none] dG_howManyClumps_1 rfl rfl rfl (by decide) ?_
  refine g_aload_n 3 (i := 0) dG_howManyClumps_2 rfl rfl rfl ?_
  obtain ⟨t1, e1, h⟩ := x_bind h
  refine g_getfI 6 2 2 dG_howManyClumps_3 rfl x_in2 tw_1_59 rfl (by decide) e1 ?_
  refine g_istore_n 7 (i := 2) [some (.ref v0), some (.int (0 : Int32)), some (.int t1), none] dG_howManyClumps_6 rfl rfl rfl (by decide) ?_
  refine g_iconst 8 (0 : Int32) dG_howManyClumps_7 rfl (by decide) ?_
  refine g_istore_n 9 (i := 3) [some (.ref v0), some (.int (0 : Int32)), some (.int t1), some (.int (0 : Int32))] dG_howManyClumps_8 rfl rfl rfl (by decide) ?_
  exact lG_howManyClumps_9 d hd hK x_F _ _ _ _ h
