/-! ActSurgery.tells(IIII)I: level X -/
theorem dA_tells_0 : decode cA_tells 0 = .ok (.aload_n 0, 1) := by decide +kernel
theorem dA_tells_1 : decode cA_tells 1 = .ok (.iload_n 1, 1) := by decide +kernel
theorem dA_tells_2 : decode cA_tells 2 = .ok (.iload_n 2, 1) := by decide +kernel
theorem dA_tells_3 : decode cA_tells 3 = .ok (.iload_n 3, 1) := by decide +kernel
theorem dA_tells_4 : decode cA_tells 4 = .ok (.invokevirtual 144, 3) := by decide +kernel
theorem dA_tells_7 : decode cA_tells 7 = .ok (.ifCond .eq 17, 3) := by decide +kernel
theorem dA_tells_10 : decode cA_tells 10 = .ok (.iload 4, 2) := by decide +kernel
theorem dA_tells_12 : decode cA_tells 12 = .ok (.aload_n 0, 1) := by decide +kernel
theorem dA_tells_13 : decode cA_tells 13 = .ok (.iload_n 2, 1) := by decide +kernel
theorem dA_tells_14 : decode cA_tells 14 = .ok (.iload_n 3, 1) := by decide +kernel
theorem dA_tells_15 : decode cA_tells 15 = .ok (.invokevirtual 147, 3) := by decide +kernel
theorem dA_tells_18 : decode cA_tells 18 = .ok (.invokestatic 62, 3) := by decide +kernel
theorem dA_tells_21 : decode cA_tells 21 = .ok (.ifCond .ne 6, 3) := by decide +kernel
theorem dA_tells_24 : decode cA_tells 24 = .ok (.bipush (-2), 2) := by decide +kernel
theorem dA_tells_26 : decode cA_tells 26 = .ok (.ireturn, 1) := by decide +kernel
theorem dA_tells_27 : decode cA_tells 27 = .ok (.aload_n 0, 1) := by decide +kernel
theorem dA_tells_28 : decode cA_tells 28 = .ok (.iload_n 1, 1) := by decide +kernel
theorem dA_tells_29 : decode cA_tells 29 = .ok (.iload_n 2, 1) := by decide +kernel
theorem dA_tells_30 : decode cA_tells 30 = .ok (.iload_n 3, 1) := by decide +kernel
theorem dA_tells_31 : decode cA_tells 31 = .ok (.iload 4, 2) := by decide +kernel
theorem dA_tells_33 : decode cA_tells 33 = .ok (.invokevirtual 150, 3) := by decide +kernel
theorem dA_tells_36 : decode cA_tells 36 = .ok (.invokestatic 88, 3) := by decide +kernel
theorem dA_tells_39 : decode cA_tells 39 = .ok (.ireturn, 1) := by decide +kernel
theorem tw_2_84 : (Jvm.Cond.instanceMethod ({ cls := "ActSurgery", name := "isAskOfTelling", desc := "(III)Z" } : Jvm.MethodName)) ∈ x_GT := x_t2 84 rfl rfl
theorem tws_15 : (Jvm.Cond.selects "ActSurgery" ({ cls := "ActSurgery", name := "isAskOfTelling", desc := "(III)Z" } : Jvm.MethodName) ({ cls := "ActSurgery", name := "isAskOfTelling", desc := "(III)Z" } : Jvm.MethodName)) ∈ x_GT := x_ts 15 rfl rfl
theorem tw_2_85 : (Jvm.Cond.code ({ cls := "ActSurgery", name := "isAskOfTelling", desc := "(III)Z" } : Jvm.MethodName) prog_1_method_27_code (4 : Nat) (Option.some Jvm.ClassFile.FieldType.boolean)) ∈ x_GT := x_t2 85 rfl rfl
theorem tw_2_82 : (Jvm.Cond.methodLink "ActSurgery" (144 : Nat) ({ cls := "ActSurgery", name := "isAskOfTelling", desc := "(III)Z" } : Jvm.MethodName)) ∈ x_GT := x_t2 82 rfl rfl
theorem kA_144 : x_kV "ActSurgery" 144 yA_isAskOfTelling cA_isAskOfTelling 4 (some .boolean) 3 0 := ⟨tw_2_84, tws_15, tw_2_85, tw_1_1, tw_2_82, (by decide +kernel), rfl⟩
theorem tw_2_88 : (Jvm.Cond.instanceMethod ({ cls := "ActSurgery", name := "mayTell", desc := "(II)I" } : Jvm.MethodName)) ∈ x_GT := x_t2 88 rfl rfl
theorem tws_16 : (Jvm.Cond.selects "ActSurgery" ({ cls := "ActSurgery", name := "mayTell", desc := "(II)I" } : Jvm.MethodName) ({ cls := "ActSurgery", name := "mayTell", desc := "(II)I" } : Jvm.MethodName)) ∈ x_GT := x_ts 16 rfl rfl
theorem tw_2_89 : (Jvm.Cond.code ({ cls := "ActSurgery", name := "mayTell", desc := "(II)I" } : Jvm.MethodName) prog_1_method_30_code (3 : Nat) (Option.some Jvm.ClassFile.FieldType.int)) ∈ x_GT := x_t2 89 rfl rfl
theorem tw_2_86 : (Jvm.Cond.methodLink "ActSurgery" (147 : Nat) ({ cls := "ActSurgery", name := "mayTell", desc := "(II)I" } : Jvm.MethodName)) ∈ x_GT := x_t2 86 rfl rfl
theorem kA_147 : x_kV "ActSurgery" 147 yA_mayTell cA_mayTell 3 (some .int) 2 0 := ⟨tw_2_88, tws_16, tw_2_89, tw_1_1, tw_2_86, (by decide +kernel), rfl⟩
theorem tw_2_92 : (Jvm.Cond.instanceMethod ({ cls := "ActSurgery", name := "isTelling", desc := "(IIII)Z" } : Jvm.MethodName)) ∈ x_GT := x_t2 92 rfl rfl
theorem tws_17 : (Jvm.Cond.selects "ActSurgery" ({ cls := "ActSurgery", name := "isTelling", desc := "(IIII)Z" } : Jvm.MethodName) ({ cls := "ActSurgery", name := "isTelling", desc := "(IIII)Z" } : Jvm.MethodName)) ∈ x_GT := x_ts 17 rfl rfl
theorem tw_2_93 : (Jvm.Cond.code ({ cls := "ActSurgery", name := "isTelling", desc := "(IIII)Z" } : Jvm.MethodName) prog_1_method_31_code (5 : Nat) (Option.some Jvm.ClassFile.FieldType.boolean)) ∈ x_GT := x_t2 93 rfl rfl
theorem tw_2_90 : (Jvm.Cond.methodLink "ActSurgery" (150 : Nat) ({ cls := "ActSurgery", name := "isTelling", desc := "(IIII)Z" } : Jvm.MethodName)) ∈ x_GT := x_t2 90 rfl rfl
theorem kA_150 : x_kV "ActSurgery" 150 yA_isTelling cA_isTelling 5 (some .boolean) 4 0 := ⟨tw_2_92, tws_17, tw_2_93, tw_1_1, tw_2_90, (by decide +kernel), rfl⟩
def fA_tells  (w : x_W) (v0 : Nat) (v1 : Int32) (v2 : Int32) (v3 : Int32) (v4 : Int32) : Option (Int32 × x_W) :=
  (x_ob w v0 0).bind fun _ =>
  (fA_isAskOfTelling w v0 v1 v2 v3).bind fun t2 =>
  if t2 = (0 : Int32) then
    some ((-2 : Int32), w)
  else
    (fA_mayTell w v0 v2 v3).bind fun t4 =>
    if (fA_isWithin v4 t4) = (0 : Int32) then
      some ((-2 : Int32), w)
    else
      (fA_isTelling w v0 v1 v2 v3 v4).bind fun q6 =>
      some ((fA_asNumber q6.1), q6.2)
set_option maxHeartbeats 4000000 in
set_option maxRecDepth 100000 in
theorem mA_tells (d : Nat) (hd : 16 ≤ d) {K : Option Value → x_W → Prop} {w : x_W} {v0 : Nat} {v1 : Int32} {v2 : Int32} {v3 : Int32} {v4 : Int32} {r : (Int32 × x_W)} (h : fA_tells w v0 v1 v2 v3 v4 = some r) (hK : K (some (.int r.1)) r.2) : x_M yA_tells cA_tells 5 (some .int) d 0 0 [.ref v0, .int v1, .int v2, .int v3, .int v4] w K := by
  refine x_M.of [some (.ref v0), some (.int v1), some (.int v2), some (.int v3), some (.int v4)] (by decide) rfl (Nat.le_of_ble_eq_true rfl) ?_
  unfold fA_tells at h
  refine g_aload_n 1 (i := 0) dA_tells_0 rfl rfl rfl ?_
  refine g_iload_n 2 (i := 1) dA_tells_1 rfl rfl rfl ?_
  refine g_iload_n 3 (i := 2) dA_tells_2 rfl rfl rfl ?_
  refine g_iload_n 4 (i := 3) dA_tells_3 rfl rfl rfl ?_
  obtain ⟨_, e1, h⟩ := x_bind h
  obtain ⟨t2, e2, h⟩ := x_bind h
  refine g_cV 7 (some (.int t2)) w [.int v1, .int v2, .int v3] [] dA_tells_4 rfl (fun _ hK2 => mA_isAskOfTelling (d - 1) (by omega) e2 hK2) (x_ob_some e1) kA_144 (x_rm (Nat.le_trans (by decide) hd) (by decide)) ⟨Nat.zero_le _, Nat.zero_le _⟩ (Nat.le_of_ble_eq_true rfl) rfl ?_
  by_cases c3 : t2 = (0 : Int32)
  · rw [if_pos c3] at h
    refine g_if_eq_t 24 dA_tells_7 (by decide) c3 ?_
    refine g_bipush 26 (-2 : Int32) dA_tells_24 rfl (by decide) ?_
    obtain rfl := Option.some.inj h
    exact g_iret rfl dA_tells_26 hK
  · rw [if_neg c3] at h
    refine g_if_eq_f 10 24 dA_tells_7 (by decide) rfl c3 ?_
    refine g_iload 12 dA_tells_10 rfl rfl ?_
    refine g_aload_n 13 (i := 0) dA_tells_12 rfl rfl rfl ?_
    refine g_iload_n 14 (i := 2) dA_tells_13 rfl rfl rfl ?_
    refine g_iload_n 15 (i := 3) dA_tells_14 rfl rfl rfl ?_
    obtain ⟨t4, e4, h⟩ := x_bind h
    refine g_cV 18 (some (.int t4)) w [.int v2, .int v3] [.int v4] dA_tells_15 rfl (fun _ hK2 => mA_mayTell (d - 1) (by omega) e4 hK2) (x_ob_some e1) kA_147 (x_rm (Nat.le_trans (by decide) hd) (by decide)) ⟨Nat.zero_le _, Nat.zero_le _⟩ (Nat.le_of_ble_eq_true rfl) rfl ?_
    refine g_cS 21 (some (.int (fA_isWithin v4 t4))) w [.int v4, .int t4] [] dA_tells_18 rfl (fun _ hK2 => mA_isWithin (d - 1) (by omega) rfl hK2) kA_62 (x_rm (Nat.le_trans (by decide) hd) (by decide)) ⟨Nat.zero_le _, Nat.zero_le _⟩ (Nat.le_of_ble_eq_true rfl) rfl ?_
    by_cases c5 : (fA_isWithin v4 t4) = (0 : Int32)
    · rw [if_pos c5] at h
      refine g_if_ne_f 24 27 dA_tells_21 (by decide) rfl c5 ?_
      refine g_bipush 26 (-2 : Int32) dA_tells_24 rfl (by decide) ?_
      obtain rfl := Option.some.inj h
      exact g_iret rfl dA_tells_26 hK
    · rw [if_neg c5] at h
      refine g_if_ne_t 27 dA_tells_21 (by decide) c5 ?_
      refine g_aload_n 28 (i := 0) dA_tells_27 rfl rfl rfl ?_
      refine g_iload_n 29 (i := 1) dA_tells_28 rfl rfl rfl ?_
      refine g_iload_n 30 (i := 2) dA_tells_29 rfl rfl rfl ?_
      refine g_iload_n 31 (i := 3) dA_tells_30 rfl rfl rfl ?_
      refine g_iload 33 dA_tells_31 rfl rfl ?_
      obtain ⟨q6, e6, h⟩ := x_bind h
      refine g_cV 36 (some (.int q6.1)) q6.2 [.int v1, .int v2, .int v3, .int v4] [] dA_tells_33 rfl (fun _ hK2 => mA_isTelling (d - 1) (by omega) e6 hK2) (x_ob_some e1) kA_150 (x_rm (Nat.le_trans (by decide) hd) (by decide)) ⟨Nat.zero_le _, Nat.zero_le _⟩ (Nat.le_of_ble_eq_true rfl) rfl ?_
      refine g_cS 39 (some (.int (fA_asNumber q6.1))) q6.2 [.int q6.1] [] dA_tells_36 rfl (fun _ hK2 => mA_asNumber (d - 1) (by omega) rfl hK2) kA_88 (x_rm (Nat.le_trans (by decide) hd) (by decide)) ⟨Nat.zero_le _, Nat.zero_le _⟩ (Nat.le_of_ble_eq_true rfl) rfl ?_
      obtain rfl := Option.some.inj h
      exact g_iret rfl dA_tells_39 hK
/-! ActSurgery.telling(III)I: level X -/
theorem dA_telling_0 : decode cA_telling 0 = .ok (.aload_n 0, 1) := by decide +kernel
theorem dA_telling_1 : decode cA_telling 1 = .ok (.iload_n 1, 1) := by decide +kernel
theorem dA_telling_2 : decode cA_telling 2 = .ok (.iload_n 2, 1) := by decide +kernel
theorem dA_telling_3 : decode cA_telling 3 = .ok (.iload_n 3, 1) := by decide +kernel
theorem dA_telling_4 : decode cA_telling 4 = .ok (.invokevirtual 144, 3) := by decide +kernel
theorem dA_telling_7 : decode cA_telling 7 = .ok (.ifCond .ne 6, 3) := by decide +kernel
theorem dA_telling_10 : decode cA_telling 10 = .ok (.bipush (-2), 2) := by decide +kernel
theorem dA_telling_12 : decode cA_telling 12 = .ok (.ireturn, 1) := by decide +kernel
theorem dA_telling_13 : decode cA_telling 13 = .ok (.aload_n 0, 1) := by decide +kernel
theorem dA_telling_14 : decode cA_telling 14 = .ok (.iload_n 2, 1) := by decide +kernel
theorem dA_telling_15 : decode cA_telling 15 = .ok (.iload_n 3, 1) := by decide +kernel
theorem dA_telling_16 : decode cA_telling 16 = .ok (.invokevirtual 147, 3) := by decide +kernel
theorem dA_telling_19 : decode cA_telling 19 = .ok (.istore 4, 2) := by decide +kernel
theorem dA_telling_21 : decode cA_telling 21 = .ok (.iconst (-1), 1) := by decide +kernel
theorem dA_telling_22 : decode cA_telling 22 = .ok (.istore 5, 2) := by decide +kernel
theorem dA_telling_24 : decode cA_telling 24 = .ok (.iconst 0, 1) := by decide +kernel
theorem dA_telling_25 : decode cA_telling 25 = .ok (.istore 6, 2) := by decide +kernel
theorem dA_telling_27 : decode cA_telling 27 = .ok (.iload 6, 2) := by decide +kernel
theorem dA_telling_29 : decode cA_telling 29 = .ok (.iload 4, 2) := by decide +kernel
theorem dA_telling_31 : decode cA_telling 31 = .ok (.if_icmp .gt 45, 3) := by decide +kernel
theorem dA_telling_34 : decode cA_telling 34 = .ok (.iload 6, 2) := by decide +kernel
theorem dA_telling_36 : decode cA_telling 36 = .ok (.iload 4, 2) := by decide +kernel
theorem dA_telling_38 : decode cA_telling 38 = .ok (.invokestatic 62, 3) := by decide +kernel
theorem dA_telling_41 : decode cA_telling 41 = .ok (.ifCond .eq 29, 3) := by decide +kernel
theorem dA_telling_44 : decode cA_telling 44 = .ok (.iload 6, 2) := by decide +kernel
theorem dA_telling_46 : decode cA_telling 46 = .ok (.iload 5, 2) := by decide +kernel
theorem dA_telling_48 : decode cA_telling 48 = .ok (.invokestatic 154, 3) := by decide +kernel
theorem dA_telling_51 : decode cA_telling 51 = .ok (.ifCond .eq 19, 3) := by decide +kernel
theorem dA_telling_54 : decode cA_telling 54 = .ok (.aload_n 0, 1) := by decide +kernel
theorem dA_telling_55 : decode cA_telling 55 = .ok (.iload_n 1, 1) := by decide +kernel
theorem dA_telling_56 : decode cA_telling 56 = .ok (.iload_n 2, 1) := by decide +kernel
theorem dA_telling_57 : decode cA_telling 57 = .ok (.iload_n 3, 1) := by decide +kernel
theorem dA_telling_58 : decode cA_telling 58 = .ok (.iload 6, 2) := by decide +kernel
theorem dA_telling_60 : decode cA_telling 60 = .ok (.invokevirtual 150, 3) := by decide +kernel
theorem dA_telling_63 : decode cA_telling 63 = .ok (.ifCond .eq 7, 3) := by decide +kernel
theorem dA_telling_66 : decode cA_telling 66 = .ok (.iload 6, 2) := by decide +kernel
theorem dA_telling_68 : decode cA_telling 68 = .ok (.istore 5, 2) := by decide +kernel
theorem dA_telling_70 : decode cA_telling 70 = .ok (.iinc 6 1, 3) := by decide +kernel
theorem dA_telling_73 : decode cA_telling 73 = .ok (.goto (-46), 3) := by decide +kernel
theorem dA_telling_76 : decode cA_telling 76 = .ok (.iload 5, 2) := by decide +kernel
theorem dA_telling_78 : decode cA_telling 78 = .ok (.ireturn, 1) := by decide +kernel
def fA_telling_27  : Nat → x_W → Nat → Int32 → Int32 → Int32 → Int32 → Int32 → Int32 → Option (Int32 × x_W)
  | 0, _, _, _, _, _, _, _, _ => none
  | n + 1, w, v0, v1, v2, v3, v4, v5, v6 =>
    if v4 < v6 then
      some (v5, w)
    else
      if (fA_isWithin v6 v4) = (0 : Int32) then
        fA_telling_27 n w v0 v1 v2 v3 v4 v5 (v6 + (1 : Int32))
      else
        if (fA_isFewer v6 v5) = (0 : Int32) then
          fA_telling_27 n w v0 v1 v2 v3 v4 v5 (v6 + (1 : Int32))
        else
          (x_ob w v0 0).bind fun _ =>
          (fA_isTelling w v0 v1 v2 v3 v6).bind fun q5 =>
          if q5.1 = (0 : Int32) then
            fA_telling_27 n q5.2 v0 v1 v2 v3 v4 v5 (v6 + (1 : Int32))
          else
            fA_telling_27 n q5.2 v0 v1 v2 v3 v4 v6 (v6 + (1 : Int32))
def fA_telling  (w : x_W) (v0 : Nat) (v1 : Int32) (v2 : Int32) (v3 : Int32) : Option (Int32 × x_W) :=
  (x_ob w v0 0).bind fun _ =>
  (fA_isAskOfTelling w v0 v1 v2 v3).bind fun t2 =>
  if t2 = (0 : Int32) then
    some ((-2 : Int32), w)
  else
    (fA_mayTell w v0 v2 v3).bind fun t4 =>
    fA_telling_27 x_F w v0 v1 v2 v3 t4 (-1 : Int32) (0 : Int32)
set_option maxHeartbeats 4000000 in
set_option maxRecDepth 100000 in
theorem lA_telling_27 (d : Nat) (hd : 16 ≤ d) {K : Option Value → x_W → Prop} {r : (Int32 × x_W)} (hK : K (some (.int r.1)) r.2) : ∀ (n : Nat) (w : x_W) (v0 : Nat) (v1 : Int32) (v2 : Int32) (v3 : Int32) (v4 : Int32) (v5 : Int32) (v6 : Int32), fA_telling_27 n w v0 v1 v2 v3 v4 v5 v6 = some r → x_G none yA_telling cA_telling 7 (some .int) (x_room d 0 0) (x_QM K 0 0) 27 [some (.ref v0), some (.int v1), some (.int v2), some (.int v3), some (.int v4), some (.int v5), some (.int v6)] [] w 0 0 := by
  intro n
  induction n with
  | zero => intro w v0 v1 v2 v3 v4 v5 v6 h; rw [fA_telling_27] at h; cases h
  | succ n ih =>
    intro w v0 v1 v2 v3 v4 v5 v6 h
    rw [fA_telling_27] at h
    refine g_iload 29 dA_telling_27 rfl rfl ?_
    refine g_iload 31 dA_telling_29 rfl rfl ?_
    by_cases c1 : v4 < v6
    · rw [if_pos c1] at h
      refine g_icmp_gt_t 76 dA_telling_31 (by decide) c1 ?_
      refine g_iload 78 dA_telling_76 rfl rfl ?_
      obtain rfl := Option.some.inj h
      exact g_iret rfl dA_telling_78 hK
    · rw [if_neg c1] at h
      refine g_icmp_gt_f 34 76 dA_telling_31 (by decide) rfl c1 ?_
      refine g_iload 36 dA_telling_34 rfl rfl ?_
      refine g_iload 38 dA_telling_36 rfl rfl ?_
      refine g_cS 41 (some (.int (fA_isWithin v6 v4))) w [.int v6, .int v4] [] dA_telling_38 rfl (fun _ hK2 => mA_isWithin (d - 1) (by omega) rfl hK2) kA_62 (x_rm (Nat.le_trans (by decide) hd) (by decide)) ⟨Nat.zero_le _, Nat.zero_le _⟩ (Nat.le_of_ble_eq_true rfl) rfl ?_
      by_cases c2 : (fA_isWithin v6 v4) = (0 : Int32)
      · rw [if_pos c2] at h
        refine g_if_eq_t 70 dA_telling_41 (by decide) c2 ?_
        refine g_iinc 73 [some (.ref v0), some (.int v1), some (.int v2), some (.int v3), some (.int v4), some (.int v5), some (.int (v6 + (1 : Int32)))] dA_telling_70 rfl rfl (x_inc (1 : Int32) (by decide)) rfl (by decide) ?_
        refine g_goto 27 dA_telling_73 (by decide) ?_
        exact ih _ _ _ _ _ _ _ _ h
      · rw [if_neg c2] at h
        refine g_if_eq_f 44 70 dA_telling_41 (by decide) rfl c2 ?_
        refine g_iload 46 dA_telling_44 rfl rfl ?_
        refine g_iload 48 dA_telling_46 rfl rfl ?_
        refine g_cS 51 (some (.int (fA_isFewer v6 v5))) w [.int v6, .int v5] [] dA_telling_48 rfl (fun _ hK2 => mA_isFewer (d - 1) (by omega) rfl hK2) kA_154 (x_rm (Nat.le_trans (by decide) hd) (by decide)) ⟨Nat.zero_le _, Nat.zero_le _⟩ (Nat.le_of_ble_eq_true rfl) rfl ?_
        by_cases c3 : (fA_isFewer v6 v5) = (0 : Int32)
        · rw [if_pos c3] at h
          refine g_if_eq_t 70 dA_telling_51 (by decide) c3 ?_
          refine g_iinc 73 [some (.ref v0), some (.int v1), some (.int v2), some (.int v3), some (.int v4), some (.int v5), some (.int (v6 + (1 : Int32)))] dA_telling_70 rfl rfl (x_inc (1 : Int32) (by decide)) rfl (by decide) ?_
          refine g_goto 27 dA_telling_73 (by decide) ?_
          exact ih _ _ _ _ _ _ _ _ h
        · rw [if_neg c3] at h
          refine g_if_eq_f 54 70 dA_telling_51 (by decide) rfl c3 ?_
          refine g_aload_n 55 (i := 0) dA_telling_54 rfl rfl rfl ?_
          refine g_iload_n 56 (i := 1) dA_telling_55 rfl rfl rfl ?_
          refine g_iload_n 57 (i := 2) dA_telling_56 rfl rfl rfl ?_
          refine g_iload_n 58 (i := 3) dA_telling_57 rfl rfl rfl ?_
          refine g_iload 60 dA_telling_58 rfl rfl ?_
          obtain ⟨_, e4, h⟩ := x_bind h
          obtain ⟨q5, e5, h⟩ := x_bind h
          refine g_cV 63 (some (.int q5.1)) q5.2 [.int v1, .int v2, .int v3, .int v6] [] dA_telling_60 rfl (fun _ hK2 => mA_isTelling (d - 1) (by omega) e5 hK2) (x_ob_some e4) kA_150 (x_rm (Nat.le_trans (by decide) hd) (by decide)) ⟨Nat.zero_le _, Nat.zero_le _⟩ (Nat.le_of_ble_eq_true rfl) rfl ?_
          by_cases c6 : q5.1 = (0 : Int32)
          · rw [if_pos c6] at h
            refine g_if_eq_t 70 dA_telling_63 (by decide) c6 ?_
            refine g_iinc 73 [some (.ref v0), some (.int v1), some (.int v2), some (.int v3), some (.int v4), some (.int v5), some (.int (v6 + (1 : Int32)))] dA_telling_70 rfl rfl (x_inc (1 : Int32) (by decide)) rfl (by decide) ?_
            refine g_goto 27 dA_telling_73 (by decide) ?_
            exact ih _ _ _ _ _ _ _ _ h
          · rw [if_neg c6] at h
            refine g_if_eq_f 66 70 dA_telling_63 (by decide) rfl c6 ?_
            refine g_iload 68 dA_telling_66 rfl rfl ?_
            refine g_istore 70 [some (.ref v0), some (.int v1), some (.int v2), some (.int v3), some (.int v4), some (.int v6), some (.int v6)] dA_telling_68 rfl rfl (by decide) ?_
            refine g_iinc 73 [some (.ref v0), some (.int v1), some (.int v2), some (.int v3), some (.int v4), some (.int v6), some (.int (v6 + (1 : Int32)))] dA_telling_70 rfl rfl (x_inc (1 : Int32) (by decide)) rfl (by decide) ?_
            refine g_goto 27 dA_telling_73 (by decide) ?_
            exact ih _ _ _ _ _ _ _ _ h
set_option maxHeartbeats 4000000 in
set_option maxRecDepth 100000 in
theorem mA_telling (d : Nat) (hd : 16 ≤ d) {K : Option Value → x_W → Prop} {w : x_W} {v0 : Nat} {v1 : Int32} {v2 : Int32} {v3 : Int32} {r : (Int32 × x_W)} (h : fA_telling w v0 v1 v2 v3 = some r) (hK : K (some (.int r.1)) r.2) : x_M yA_telling cA_telling 7 (some .int) d 0 0 [.ref v0, .int v1, .int v2, .int v3] w K := by
  refine x_M.of [some (.ref v0), some (.int v1), some (.int v2), some (.int v3), none, none, none] (by decide) rfl (Nat.le_of_ble_eq_true rfl) ?_
  unfold fA_telling at h
  refine g_aload_n 1 (i := 0) dA_telling_0 rfl rfl rfl ?_
  refine g_iload_n 2 (i := 1) dA_telling_1 rfl rfl rfl ?_
  refine g_iload_n 3 (i := 2) dA_telling_2 rfl rfl rfl ?_
  refine g_iload_n 4 (i := 3) dA_telling_3 rfl rfl rfl ?_
  obtain ⟨_, e1, h⟩ := x_bind h
  obtain ⟨t2, e2, h⟩ := x_bind h
  refine g_cV 7 (some (.int t2)) w [.int v1, .int v2, .int v3] [] dA_telling_4 rfl (fun _ hK2 => mA_isAskOfTelling (d - 1) (by omega) e2 hK2) (x_ob_some e1) kA_144 (x_rm (Nat.le_trans (by decide) hd) (by decide)) ⟨Nat.zero_le _, Nat.zero_le _⟩ (Nat.le_of_ble_eq_true rfl) rfl ?_
  by_cases c3 : t2 = (0 : Int32)
  · rw [if_pos c3] at h
    refine g_if_ne_f 10 13 dA_telling_7 (by decide) rfl c3 ?_
    refine g_bipush 12 (-2 : Int32) dA_telling_10 rfl (by decide) ?_
    obtain rfl := Option.some.inj h
    exact g_iret rfl dA_telling_12 hK
  · rw [if_neg c3] at h
    refine g_if_ne_t 13 dA_telling_7 (by decide) c3 ?_
    refine g_aload_n 14 (i := 0) dA_telling_13 rfl rfl rfl ?_
    refine g_iload_n 15 (i := 2) dA_telling_14 rfl rfl rfl ?_
    refine g_iload_n 16 (i := 3) dA_telling_15 rfl rfl rfl ?_
    obtain ⟨t4, e4, h⟩ := x_bind h
    refine g_cV 19 (some (.int t4)) w [.int v2, .int v3] [] dA_telling_16 rfl (fun _ hK2 => mA_mayTell (d - 1) (by omega) e4 hK2) (x_ob_some e1) kA_147 (x_rm (Nat.le_trans (by decide) hd) (by decide)) ⟨Nat.zero_le _, Nat.zero_le _⟩ (Nat.le_of_ble_eq_true rfl) rfl ?_
    refine g_istore 21 [some (.ref v0), some (.int v1), some (.int v2), some (.int v3), some (.int t4), none, none] dA_telling_19 rfl rfl (by decide) ?_
    refine g_iconst 22 (-1 : Int32) dA_telling_21 rfl (by decide) ?_
    refine g_istore 24 [some (.ref v0), some (.int v1), some (.int v2), some (.int v3), some (.int t4), some (.int (-1 : Int32)), none] dA_telling_22 rfl rfl (by decide) ?_
    refine g_iconst 25 (0 : Int32) dA_telling_24 rfl (by decide) ?_
    refine g_istore 27 [some (.ref v0), some (.int v1), some (.int v2), some (.int v3), some (.int t4), some (.int (-1 : Int32)), some (.int (0 : Int32))] dA_telling_25 rfl rfl (by decide) ?_
    exact lA_telling_27 d hd hK x_F _ _ _ _ _ _ _ _ h
/-! ActSurgery.told(I)I: level P -/
theorem dA_told_0 : decode cA_told 0 = .ok (.aload_n 0, 1) := by decide +kernel
theorem dA_told_1 : decode cA_told 1 = .ok (.iload_n 1, 1) := by decide +kernel
theorem dA_told_2 : decode cA_told 2 = .ok (.invokevirtual 54, 3) := by decide +kernel
theorem dA_told_5 : decode cA_told 5 = .ok (.ifCond .eq 17, 3) := by decide +kernel
theorem dA_told_8 : decode cA_told 8 = .ok (.aload_n 0, 1) := by decide +kernel
theorem dA_told_9 : decode cA_told 9 = .ok (.getfield 10, 3) := by decide +kernel
theorem dA_told_12 : decode cA_told 12 = .ok (.getfield 82, 3) := by decide +kernel
theorem dA_told_15 : decode cA_told 15 = .ok (.iload_n 1, 1) := by decide +kernel
theorem dA_told_16 : decode cA_told 16 = .ok (.invokestatic 85, 3) := by decide +kernel
theorem dA_told_19 : decode cA_told 19 = .ok (.ifCond .eq 6, 3) := by decide +kernel
theorem dA_told_22 : decode cA_told 22 = .ok (.bipush (-2), 2) := by decide +kernel
theorem dA_told_24 : decode cA_told 24 = .ok (.ireturn, 1) := by decide +kernel
theorem dA_told_25 : decode cA_told 25 = .ok (.aload_n 0, 1) := by decide +kernel
theorem dA_told_26 : decode cA_told 26 = .ok (.getfield 10, 3) := by decide +kernel
theorem dA_told_29 : decode cA_told 29 = .ok (.iload_n 1, 1) := by decide +kernel
theorem dA_told_30 : decode cA_told 30 = .ok (.invokevirtual 157, 3) := by decide +kernel
theorem dA_told_33 : decode cA_told 33 = .ok (.aload_n 0, 1) := by decide +kernel
theorem dA_told_34 : decode cA_told 34 = .ok (.getfield 10, 3) := by decide +kernel
theorem dA_told_37 : decode cA_told 37 = .ok (.iload_n 1, 1) := by decide +kernel
theorem dA_told_38 : decode cA_told 38 = .ok (.invokevirtual 121, 3) := by decide +kernel
theorem dA_told_41 : decode cA_told 41 = .ok (.iand, 1) := by decide +kernel
theorem dA_told_42 : decode cA_told 42 = .ok (.ifCond .ne 7, 3) := by decide +kernel
theorem dA_told_45 : decode cA_told 45 = .ok (.iconst 1, 1) := by decide +kernel
theorem dA_told_46 : decode cA_told 46 = .ok (.goto 4, 3) := by decide +kernel
theorem dA_told_49 : decode cA_told 49 = .ok (.iconst 0, 1) := by decide +kernel
theorem dA_told_50 : decode cA_told 50 = .ok (.invokestatic 88, 3) := by decide +kernel
theorem dA_told_53 : decode cA_told 53 = .ok (.ireturn, 1) := by decide +kernel
theorem tw_2_125 : (Jvm.Cond.methodLink "ActSurgery" (157 : Nat) ({ cls := "ActSurgery$Graph", name := "seenFrom", desc := "(I)I" } : Jvm.MethodName)) ∈ x_GT := x_t2 125 rfl rfl
theorem kA_157 : x_kV "ActSurgery" 157 yG_seenFrom cG_seenFrom 5 (some .int) 1 2 := ⟨tw_2_0, tw_2_1, tw_2_2, tw_1_2, tw_2_125, (by decide +kernel), rfl⟩
def fA_told (w : x_W) (v0 : Nat) (v1 : Int32) : Option Int32 :=
  (x_ob w v0 0).bind fun _ =>
  (fA_isPlace w v0 v1).bind fun t2 =>
  if t2 = (0 : Int32) then
    some (-2 : Int32)
  else
    (x_fr w v0 0 0).bind fun t4 =>
    (x_fi w t4 2 2).bind fun t5 =>
    if (fA_has t5 v1) = (0 : Int32) then
      (fG_seenFrom w t4 v1).bind fun t7 =>
      (fG_clumpOf w t4 v1).bind fun t8 =>
      if (t7 &&& t8) = (0 : Int32) then
        some (fA_asNumber (1 : Int32))
      else
        some (fA_asNumber (0 : Int32))
    else
      some (-2 : Int32)
set_option maxHeartbeats 4000000 in
set_option maxRecDepth 100000 in
theorem mA_told (d : Nat) (hd : 5 ≤ d) {K : Option Value → x_W → Prop} {w : x_W} {v0 : Nat} {v1 : Int32} {r : Int32} (h : fA_told w v0 v1 = some r) (hK : K (some (.int r)) w) : x_M yA_told cA_told 2 (some .int) d 0 0 [.ref v0, .int v1] w K := by
  refine x_M.of [some (.ref v0), some (.int v1)] (by decide) rfl (Nat.le_of_ble_eq_true rfl) ?_
  unfold fA_told at h
  refine g_aload_n 1 (i := 0) dA_told_0 rfl rfl rfl ?_
  refine g_iload_n 2 (i := 1) dA_told_1 rfl rfl rfl ?_
  obtain ⟨_, e1, h⟩ := x_bind h
  obtain ⟨t2, e2, h⟩ := x_bind h
  refine g_cV 5 (some (.int t2)) w [.int v1] [] dA_told_2 rfl (fun _ hK2 => mA_isPlace (d - 1) (by omega) e2 hK2) (x_ob_some e1) kA_54 (x_rm (Nat.le_trans (by decide) hd) (by decide)) ⟨Nat.zero_le _, Nat.zero_le _⟩ (Nat.le_of_ble_eq_true rfl) rfl ?_
  by_cases c3 : t2 = (0 : Int32)
  · rw [if_pos c3] at h
    refine g_if_eq_t 22 dA_told_5 (by decide) c3 ?_
    refine g_bipush 24 (-2 : Int32) dA_told_22 rfl (by decide) ?_
    obtain rfl := Option.some.inj h
    exact g_iret rfl dA_told_24 hK
  · rw [if_neg c3] at h
    refine g_if_eq_f 8 22 dA_told_5 (by decide) rfl c3 ?_
    refine g_aload_n 9 (i := 0) dA_told_8 rfl rfl rfl ?_
    obtain ⟨t4, e4, h⟩ := x_bind h
    refine g_getfR 12 0 0 dA_told_9 rfl x_in0 tw_1_115 rfl (by decide) e4 ?_
    obtain ⟨t5, e5, h⟩ := x_bind h
    refine g_getfI 15 2 2 dA_told_12 rfl x_in2 tw_1_60 rfl (by decide) e5 ?_
    refine g_iload_n 16 (i := 1) dA_told_15 rfl rfl rfl ?_
    refine g_cS 19 (some (.int (fA_has t5 v1))) w [.int t5, .int v1] [] dA_told_16 rfl (fun _ hK2 => mA_has (d - 1) (by omega) rfl hK2) kA_85 (x_rm (Nat.le_trans (by decide) hd) (by decide)) ⟨Nat.zero_le _, Nat.zero_le _⟩ (Nat.le_of_ble_eq_true rfl) rfl ?_
    by_cases c6 : (fA_has t5 v1) = (0 : Int32)
    · rw [if_pos c6] at h
      refine g_if_eq_t 25 dA_told_19 (by decide) c6 ?_
      refine g_aload_n 26 (i := 0) dA_told_25 rfl rfl rfl ?_
      refine g_getfR 29 0 0 dA_told_26 rfl x_in0 tw_1_115 rfl (by decide) e4 ?_
      refine g_iload_n 30 (i := 1) dA_told_29 rfl rfl rfl ?_
      obtain ⟨t7, e7, h⟩ := x_bind h
      refine g_cV 33 (some (.int t7)) w [.int v1] [] dA_told_30 rfl (fun _ hK2 => mG_seenFrom (d - 1) (by omega) e7 hK2) (x_fi_ob e5) kA_157 (x_rm (Nat.le_trans (by decide) hd) (by decide)) ⟨Nat.zero_le _, Nat.zero_le _⟩ (Nat.le_of_ble_eq_true rfl) rfl ?_
      refine g_aload_n 34 (i := 0) dA_told_33 rfl rfl rfl ?_
      refine g_getfR 37 0 0 dA_told_34 rfl x_in0 tw_1_115 rfl (by decide) e4 ?_
      refine g_iload_n 38 (i := 1) dA_told_37 rfl rfl rfl ?_
      obtain ⟨t8, e8, h⟩ := x_bind h
      refine g_cV 41 (some (.int t8)) w [.int v1] [.int t7] dA_told_38 rfl (fun _ hK2 => mG_clumpOf (d - 1) (by omega) e8 hK2) (x_fi_ob e5) kA_121 (x_rm (Nat.le_trans (by decide) hd) (by decide)) ⟨Nat.zero_le _, Nat.zero_le _⟩ (Nat.le_of_ble_eq_true rfl) rfl ?_
      refine g_iand 42 dA_told_41 rfl ?_
      by_cases c9 : (t7 &&& t8) = (0 : Int32)
      · rw [if_pos c9] at h
        refine g_if_ne_f 45 49 dA_told_42 (by decide) rfl c9 ?_
        refine g_iconst 46 (1 : Int32) dA_told_45 rfl (by decide) ?_
        refine g_goto 50 dA_told_46 (by decide) ?_
        refine g_cS 53 (some (.int (fA_asNumber (1 : Int32)))) w [.int (1 : Int32)] [] dA_told_50 rfl (fun _ hK2 => mA_asNumber (d - 1) (by omega) rfl hK2) kA_88 (x_rm (Nat.le_trans (by decide) hd) (by decide)) ⟨Nat.zero_le _, Nat.zero_le _⟩ (Nat.le_of_ble_eq_true rfl) rfl ?_
        obtain rfl := Option.some.inj h
        exact g_iret rfl dA_told_53 hK
      · rw [if_neg c9] at h
        refine g_if_ne_t 49 dA_told_42 (by decide) c9 ?_
        refine g_iconst 50 (0 : Int32) dA_told_49 rfl (by decide) ?_
        refine g_cS 53 (some (.int (fA_asNumber (0 : Int32)))) w [.int (0 : Int32)] [] dA_told_50 rfl (fun _ hK2 => mA_asNumber (d - 1) (by omega) rfl hK2) kA_88 (x_rm (Nat.le_trans (by decide) hd) (by decide)) ⟨Nat.zero_le _, Nat.zero_le _⟩ (Nat.le_of_ble_eq_true rfl) rfl ?_
        obtain rfl := Option.some.inj h
        exact g_iret rfl dA_told_53 hK
    · rw [if_neg c6] at h
      refine g_if_eq_f 22 25 dA_told_19 (by decide) rfl c6 ?_
      refine g_bipush 24 (-2 : Int32) dA_told_22 rfl (by decide) ?_
      obtain rfl := Option.some.inj h
      exact g_iret rfl dA_told_24 hK
/-! ActSurgery.isPart(I)Z: level T -/
theorem dA_isPart_0 : decode cA_isPart 0 = .ok (.iload_n 1, 1) := by decide +kernel
theorem dA_isPart_1 : decode cA_isPart 1 = .ok (.ifCond .eq 8, 3) := by decide +kernel
theorem dA_isPart_4 : decode cA_isPart 4 = .ok (.iload_n 1, 1) := by decide +kernel
theorem dA_isPart_5 : decode cA_isPart 5 = .ok (.iconst 1, 1) := by decide +kernel
theorem dA_isPart_6 : decode cA_isPart 6 = .ok (.if_icmp .ne 7, 3) := by decide +kernel
theorem dA_isPart_9 : decode cA_isPart 9 = .ok (.iconst 1, 1) := by decide +kernel
theorem dA_isPart_10 : decode cA_isPart 10 = .ok (.goto 4, 3) := by decide +kernel
theorem dA_isPart_13 : decode cA_isPart 13 = .ok (.iconst 0, 1) := by decide +kernel
theorem dA_isPart_14 : decode cA_isPart 14 = .ok (.ireturn, 1) := by decide +kernel
def fA_isPart  (v0 : Nat) (v1 : Int32) : Int32 :=
  if v1 = (0 : Int32) then
    (1 : Int32)
  else
    if v1 = (1 : Int32) then
      (1 : Int32)
    else
      (0 : Int32)
set_option maxHeartbeats 4000000 in
set_option maxRecDepth 100000 in
theorem mA_isPart (d : Nat) (hd : 1 ≤ d) {K : Option Value → x_W → Prop} {w : x_W} {v0 : Nat} {v1 : Int32} {r : Int32} (h : fA_isPart v0 v1 = r) (hK : K (some (.int r)) w) : x_M yA_isPart cA_isPart 2 (some .boolean) d 0 0 [.ref v0, .int v1] w K := by
  refine x_M.of [some (.ref v0), some (.int v1)] (by decide) rfl (Nat.le_of_ble_eq_true rfl) ?_
  unfold fA_isPart at h
  refine g_iload_n 1 (i := 1) dA_isPart_0 rfl rfl rfl ?_
  by_cases c1 : v1 = (0 : Int32)
  · rw [if_pos c1] at h
    refine g_if_eq_t 9 dA_isPart_1 (by decide) c1 ?_
    refine g_iconst 10 (1 : Int32) dA_isPart_9 rfl (by decide) ?_
    refine g_goto 14 dA_isPart_10 (by decide) ?_
    subst h
    exact g_zret rfl (by decide) dA_isPart_14 hK
  · rw [if_neg c1] at h
    refine g_if_eq_f 4 9 dA_isPart_1 (by decide) rfl c1 ?_
    refine g_iload_n 5 (i := 1) dA_isPart_4 rfl rfl rfl ?_
    refine g_iconst 6 (1 : Int32) dA_isPart_5 rfl (by decide) ?_
    by_cases c2 : v1 = (1 : Int32)
    · rw [if_pos c2] at h
      refine g_icmp_ne_f 9 13 dA_isPart_6 (by decide) rfl c2 ?_
      refine g_iconst 10 (1 : Int32) dA_isPart_9 rfl (by decide) ?_
      refine g_goto 14 dA_isPart_10 (by decide) ?_
      subst h
      exact g_zret rfl (by decide) dA_isPart_14 hK
    · rw [if_neg c2] at h
      refine g_icmp_ne_t 13 dA_isPart_6 (by decide) c2 ?_
      refine g_iconst 14 (0 : Int32) dA_isPart_13 rfl (by decide) ?_
      subst h
      exact g_zret rfl (by decide) dA_isPart_14 hK
/-! ActSurgery.isValued(II)Z: level P -/
theorem dA_isValued_0 : decode cA_isValued 0 = .ok (.iload_n 1, 1) := by decide +kernel
theorem dA_isValued_1 : decode cA_isValued 1 = .ok (.aload_n 0, 1) := by decide +kernel
theorem dA_isValued_2 : decode cA_isValued 2 = .ok (.invokevirtual 185, 3) := by decide +kernel
theorem dA_isValued_5 : decode cA_isValued 5 = .ok (.invokestatic 62, 3) := by decide +kernel
theorem dA_isValued_8 : decode cA_isValued 8 = .ok (.ifCond .eq 15, 3) := by decide +kernel
theorem dA_isValued_11 : decode cA_isValued 11 = .ok (.iload_n 2, 1) := by decide +kernel
theorem dA_isValued_12 : decode cA_isValued 12 = .ok (.iload_n 1, 1) := by decide +kernel
theorem dA_isValued_13 : decode cA_isValued 13 = .ok (.invokestatic 62, 3) := by decide +kernel
theorem dA_isValued_16 : decode cA_isValued 16 = .ok (.ifCond .eq 7, 3) := by decide +kernel
theorem dA_isValued_19 : decode cA_isValued 19 = .ok (.iconst 1, 1) := by decide +kernel
theorem dA_isValued_20 : decode cA_isValued 20 = .ok (.goto 4, 3) := by decide +kernel
theorem dA_isValued_23 : decode cA_isValued 23 = .ok (.iconst 0, 1) := by decide +kernel
theorem dA_isValued_24 : decode cA_isValued 24 = .ok (.ireturn, 1) := by decide +kernel
def fA_isValued (w : x_W) (v0 : Nat) (v1 : Int32) (v2 : Int32) : Option Int32 :=
  (x_ob w v0 0).bind fun _ =>
  (fA_allPlaces w v0).bind fun t2 =>
  if (fA_isWithin v1 t2) = (0 : Int32) then
    some (0 : Int32)
  else
    if (fA_isWithin v2 v1) = (0 : Int32) then
      some (0 : Int32)
    else
      some (1 : Int32)
set_option maxHeartbeats 4000000 in
set_option maxRecDepth 100000 in
theorem mA_isValued (d : Nat) (hd : 3 ≤ d) {K : Option Value → x_W → Prop} {w : x_W} {v0 : Nat} {v1 : Int32} {v2 : Int32} {r : Int32} (h : fA_isValued w v0 v1 v2 = some r) (hK : K (some (.int r)) w) : x_M yA_isValued cA_isValued 3 (some .boolean) d 0 0 [.ref v0, .int v1, .int v2] w K := by
  refine x_M.of [some (.ref v0), some (.int v1), some (.int v2)] (by decide) rfl (Nat.le_of_ble_eq_true rfl) ?_
  unfold fA_isValued at h
  refine g_iload_n 1 (i := 1) dA_isValued_0 rfl rfl rfl ?_
  refine g_aload_n 2 (i := 0) dA_isValued_1 rfl rfl rfl ?_
  obtain ⟨_, e1, h⟩ := x_bind h
  obtain ⟨t2, e2, h⟩ := x_bind h
  refine g_cV 5 (some (.int t2)) w [] [.int v1] dA_isValued_2 rfl (fun _ hK2 => mA_allPlaces (d - 1) (by omega) e2 hK2) (x_ob_some e1) kA_185 (x_rm (Nat.le_trans (by decide) hd) (by decide)) ⟨Nat.zero_le _, Nat.zero_le _⟩ (Nat.le_of_ble_eq_true rfl) rfl ?_
  refine g_cS 8 (some (.int (fA_isWithin v1 t2))) w [.int v1, .int t2] [] dA_isValued_5 rfl (fun _ hK2 => mA_isWithin (d - 1) (by omega) rfl hK2) kA_62 (x_rm (Nat.le_trans (by decide) hd) (by decide)) ⟨Nat.zero_le _, Nat.zero_le _⟩ (Nat.le_of_ble_eq_true rfl) rfl ?_
  by_cases c3 : (fA_isWithin v1 t2) = (0 : Int32)
  · rw [if_pos c3] at h
    refine g_if_eq_t 23 dA_isValued_8 (by decide) c3 ?_
    refine g_iconst 24 (0 : Int32) dA_isValued_23 rfl (by decide) ?_
    obtain rfl := Option.some.inj h
    exact g_zret rfl (by decide) dA_isValued_24 hK
  · rw [if_neg c3] at h
    refine g_if_eq_f 11 23 dA_isValued_8 (by decide) rfl c3 ?_
    refine g_iload_n 12 (i := 2) dA_isValued_11 rfl rfl rfl ?_
    refine g_iload_n 13 (i := 1) dA_isValued_12 rfl rfl rfl ?_
    refine g_cS 16 (some (.int (fA_isWithin v2 v1))) w [.int v2, .int v1] [] dA_isValued_13 rfl (fun _ hK2 => mA_isWithin (d - 1) (by omega) rfl hK2) kA_62 (x_rm (Nat.le_trans (by decide) hd) (by decide)) ⟨Nat.zero_le _, Nat.zero_le _⟩ (Nat.le_of_ble_eq_true rfl) rfl ?_
    by_cases c4 : (fA_isWithin v2 v1) = (0 : Int32)
    · rw [if_pos c4] at h
      refine g_if_eq_t 23 dA_isValued_16 (by decide) c4 ?_
      refine g_iconst 24 (0 : Int32) dA_isValued_23 rfl (by decide) ?_
      obtain rfl := Option.some.inj h
      exact g_zret rfl (by decide) dA_isValued_24 hK
    · rw [if_neg c4] at h
      refine g_if_eq_f 19 23 dA_isValued_16 (by decide) rfl c4 ?_
      refine g_iconst 20 (1 : Int32) dA_isValued_19 rfl (by decide) ?_
      refine g_goto 24 dA_isValued_20 (by decide) ?_
      obtain rfl := Option.some.inj h
      exact g_zret rfl (by decide) dA_isValued_24 hK
/-! ActSurgery.commonMeasure(II)I: level N -/
theorem dA_commonMeasure_0 : decode cA_commonMeasure 0 = .ok (.iload_n 1, 1) := by decide +kernel
theorem dA_commonMeasure_1 : decode cA_commonMeasure 1 = .ok (.istore_n 2, 1) := by decide +kernel
theorem dA_commonMeasure_2 : decode cA_commonMeasure 2 = .ok (.iload_n 0, 1) := by decide +kernel
theorem dA_commonMeasure_3 : decode cA_commonMeasure 3 = .ok (.istore_n 3, 1) := by decide +kernel
theorem dA_commonMeasure_4 : decode cA_commonMeasure 4 = .ok (.iconst 0, 1) := by decide +kernel
theorem dA_commonMeasure_5 : decode cA_commonMeasure 5 = .ok (.istore 4, 2) := by decide +kernel
theorem dA_commonMeasure_7 : decode cA_commonMeasure 7 = .ok (.iload 4, 2) := by decide +kernel
theorem dA_commonMeasure_9 : decode cA_commonMeasure 9 = .ok (.bipush 64, 2) := by decide +kernel
theorem dA_commonMeasure_11 : decode cA_commonMeasure 11 = .ok (.if_icmp .ge 23, 3) := by decide +kernel
theorem dA_commonMeasure_14 : decode cA_commonMeasure 14 = .ok (.iload_n 3, 1) := by decide +kernel
theorem dA_commonMeasure_15 : decode cA_commonMeasure 15 = .ok (.ifCond .eq 19, 3) := by decide +kernel
theorem dA_commonMeasure_18 : decode cA_commonMeasure 18 = .ok (.iload_n 2, 1) := by decide +kernel
theorem dA_commonMeasure_19 : decode cA_commonMeasure 19 = .ok (.iload_n 3, 1) := by decide +kernel
theorem dA_commonMeasure_20 : decode cA_commonMeasure 20 = .ok (.irem, 1) := by decide +kernel
theorem dA_commonMeasure_21 : decode cA_commonMeasure 21 = .ok (.istore 5, 2) := by decide +kernel
theorem dA_commonMeasure_23 : decode cA_commonMeasure 23 = .ok (.iload_n 3, 1) := by decide +kernel
theorem dA_commonMeasure_24 : decode cA_commonMeasure 24 = .ok (.istore_n 2, 1) := by decide +kernel
theorem dA_commonMeasure_25 : decode cA_commonMeasure 25 = .ok (.iload 5, 2) := by decide +kernel
theorem dA_commonMeasure_27 : decode cA_commonMeasure 27 = .ok (.istore_n 3, 1) := by decide +kernel
theorem dA_commonMeasure_28 : decode cA_commonMeasure 28 = .ok (.iinc 4 1, 3) := by decide +kernel
theorem dA_commonMeasure_31 : decode cA_commonMeasure 31 = .ok (.goto (-24), 3) := by decide +kernel
theorem dA_commonMeasure_34 : decode cA_commonMeasure 34 = .ok (.iconst 1, 1) := by decide +kernel
theorem dA_commonMeasure_35 : decode cA_commonMeasure 35 = .ok (.iload_n 2, 1) := by decide +kernel
theorem dA_commonMeasure_36 : decode cA_commonMeasure 36 = .ok (.invokestatic 223, 3) := by decide +kernel
theorem dA_commonMeasure_39 : decode cA_commonMeasure 39 = .ok (.ireturn, 1) := by decide +kernel
theorem tw_2_176 : (Jvm.Cond.methodLink "ActSurgery" (223 : Nat) ({ cls := "java/lang/Math", name := "max", desc := "(II)I" } : Jvm.MethodName)) ∈ x_GT := x_t2 176 rfl rfl
theorem tw_2_168 : (Jvm.Cond.static ({ cls := "java/lang/Math", name := "max", desc := "(II)I" } : Jvm.MethodName)) ∈ x_GT := x_t2 168 rfl rfl
theorem tw_1_8 : (Jvm.Cond.initialized "java/lang/Math") ∈ x_GT := x_t1 8 rfl rfl
theorem tw_2_169 : (Jvm.Cond.code ({ cls := "java/lang/Math", name := "max", desc := "(II)I" } : Jvm.MethodName) prog_9_method_65_code (2 : Nat) (Option.some Jvm.ClassFile.FieldType.int)) ∈ x_GT := x_t2 169 rfl rfl
def fA_commonMeasure_7  : Nat → Int32 → Int32 → Int32 → Option Int32
  | 0, _, _, _ => none
  | n + 1, v2, v3, v4 =>
    if (64 : Int32) ≤ v4 then
      some (if (1 : Int32) < v2 then v2 else (1 : Int32))
    else
      if v3 = (0 : Int32) then
        some (if (1 : Int32) < v2 then v2 else (1 : Int32))
      else
        if v3 = 0 then none else
        fA_commonMeasure_7 n v3 (v2 - v2 / v3 * v3) (v4 + (1 : Int32))
def fA_commonMeasure  (v0 : Int32) (v1 : Int32) : Option Int32 :=
  fA_commonMeasure_7 x_F v1 v0 (0 : Int32)
set_option maxHeartbeats 4000000 in
set_option maxRecDepth 100000 in
theorem lA_commonMeasure_7 (d : Nat) (hd : 1 ≤ d) {K : Option Value → x_W → Prop} {r : Int32} {w : x_W} (hK : K (some (.int r)) w) : ∀ (n : Nat) (v2 : Int32) (v3 : Int32) (v4 : Int32), fA_commonMeasure_7 n v2 v3 v4 = some r → x_G none yA_commonMeasure cA_commonMeasure 6 (some .int) (x_room d 0 0) (x_QM K 0 0) 7 [none, none, some (.int v2), some (.int v3), some (.int v4), none] [] w 0 0 := by
  intro n
  induction n with
  | zero => intro v2 v3 v4 h; rw [fA_commonMeasure_7] at h; cases h
  | succ n ih =>
    intro v2 v3 v4 h
    rw [fA_commonMeasure_7] at h
    refine g_iload 9 dA_commonMeasure_7 rfl rfl ?_
    refine g_bipush 11 (64 : Int32) dA_commonMeasure_9 rfl (by decide) ?_
    by_cases c1 : (64 : Int32) ≤ v4
    · rw [if_pos c1] at h
      refine g_icmp_ge_t 34 dA_commonMeasure_11 (by decide) c1 ?_
      refine g_iconst 35 (1 : Int32) dA_commonMeasure_34 rfl (by decide) ?_
      refine g_iload_n 36 (i := 2) dA_commonMeasure_35 rfl rfl rfl ?_
      refine g_mmax 39 dA_commonMeasure_36 rfl tw_2_176 tw_2_168 tw_1_8 tw_2_169 (x_r1 (Nat.le_trans (by decide) hd)) (x_r60 (Nat.le_trans (by decide) hd)) (Nat.zero_le _) (Nat.zero_le _) (Nat.le_of_ble_eq_true rfl) ?_
      obtain rfl := Option.some.inj h
      exact g_iret rfl dA_commonMeasure_39 hK
    · rw [if_neg c1] at h
      refine g_icmp_ge_f 14 34 dA_commonMeasure_11 (by decide) rfl c1 ?_
      refine g_iload_n 15 (i := 3) dA_commonMeasure_14 rfl rfl rfl ?_
      by_cases c2 : v3 = (0 : Int32)
      · rw [if_pos c2] at h
        refine g_if_eq_t 34 dA_commonMeasure_15 (by decide) c2 ?_
        refine g_iconst 35 (1 : Int32) dA_commonMeasure_34 rfl (by decide) ?_
        refine g_iload_n 36 (i := 2) dA_commonMeasure_35 rfl rfl rfl ?_
        refine g_mmax 39 dA_commonMeasure_36 rfl tw_2_176 tw_2_168 tw_1_8 tw_2_169 (x_r1 (Nat.le_trans (by decide) hd)) (x_r60 (Nat.le_trans (by decide) hd)) (Nat.zero_le _) (Nat.zero_le _) (Nat.le_of_ble_eq_true rfl) ?_
        obtain rfl := Option.some.inj h
        exact g_iret rfl dA_commonMeasure_39 hK
      · rw [if_neg c2] at h
        refine g_if_eq_f 18 34 dA_commonMeasure_15 (by decide) rfl c2 ?_
        refine g_iload_n 19 (i := 2) dA_commonMeasure_18 rfl rfl rfl ?_
        refine g_iload_n 20 (i := 3) dA_commonMeasure_19 rfl rfl rfl ?_
        by_cases c3 : v3 = 0
        · rw [if_pos c3] at h; cases h
        · rw [if_neg c3] at h
          refine g_irem 21 dA_commonMeasure_20 rfl c3 ?_
          refine g_istore 23 [none, none, some (.int v2), some (.int v3), some (.int v4), some (.int (v2 - v2 / v3 * v3))] dA_commonMeasure_21 rfl rfl (by decide) ?_
          refine g_iload_n 24 (i := 3) dA_commonMeasure_23 rfl rfl rfl ?_
          refine g_istore_n 25 (i := 2) [none, none, some (.int v3), some (.int v3), some (.int v4), some (.int (v2 - v2 / v3 * v3))] dA_commonMeasure_24 rfl rfl rfl (by decide) ?_
          refine g_iload 27 dA_commonMeasure_25 rfl rfl ?_
          refine g_istore_n 28 (i := 3) [none, none, some (.int v3), some (.int (v2 - v2 / v3 * v3)), some (.int v4), some (.int (v2 - v2 / v3 * v3))] dA_commonMeasure_27 rfl rfl rfl (by decide) ?_
          refine g_iinc 31 [none, none, some (.int v3), some (.int (v2 - v2 / v3 * v3)), some (.int (v4 + (1 : Int32))), some (.int (v2 - v2 / v3 * v3))] dA_commonMeasure_28 rfl rfl (x_inc (1 : Int32) (by decide)) rfl (by decide) ?_
          refine g_goto 7 dA_commonMeasure_31 (by decide) ?_
          refine g_less [none, none, some (.int v3), some (.int (v2 - v2 / v3 * v3)), some (.int (v4 + (1 : Int32))), none] ⟨rfl, rfl, rfl, trivial⟩ ?_
          exact ih _ _ _ h
set_option maxHeartbeats 4000000 in
set_option maxRecDepth 100000 in
theorem mA_commonMeasure (d : Nat) (hd : 1 ≤ d) {K : Option Value → x_W → Prop} {w : x_W} {v0 : Int32} {v1 : Int32} {r : Int32} (h : fA_commonMeasure v0 v1 = some r) (hK : K (some (.int r)) w) : x_M yA_commonMeasure cA_commonMeasure 6 (some .int) d 0 0 [.int v0, .int v1] w K := by
  refine x_M.of [some (.int v0), some (.int v1), none, none, none, none] (by decide) rfl (Nat.le_of_ble_eq_true rfl) ?_
  unfold fA_commonMeasure at h
  refine g_iload_n 1 (i := 1) dA_commonMeasure_0 rfl rfl rfl ?_
  refine g_istore_n 2 (i := 2) [some (.int v0), some (.int v1), some (.int v1), none, none, none] dA_commonMeasure_1 rfl rfl rfl (by decide) ?_
  refine g_iload_n 3 (i := 0) dA_commonMeasure_2 rfl rfl rfl ?_
  refine g_istore_n 4 (i := 3) [some (.int v0), some (.int v1), some (.int v1), some (.int v0), none, none] dA_commonMeasure_3 rfl rfl rfl (by decide) ?_
  refine g_iconst 5 (0 : Int32) dA_commonMeasure_4 rfl (by decide) ?_
  refine g_istore 7 [some (.int v0), some (.int v1), some (.int v1), some (.int v0), some (.int (0 : Int32)), none] dA_commonMeasure_5 rfl rfl (by decide) ?_
  refine g_less [none, none, some (.int v1), some (.int v0), some (.int (0 : Int32)), none] ⟨rfl, rfl, rfl, trivial⟩ ?_
  exact lA_commonMeasure_7 d hd hK x_F _ _ _ h
/-! ActSurgery$Graph.numbersFor(IIII)I: level T -/
theorem dG_numbersFor_0 : decode cG_numbersFor 0 = .ok (.iload_n 1, 1) := by decide +kernel
theorem dG_numbersFor_1 : decode cG_numbersFor 1 = .ok (.iconst 1, 1) := by decide +kernel
theorem dG_numbersFor_2 : decode cG_numbersFor 2 = .ok (.if_icmp .ne 7, 3) := by decide +kernel
theorem dG_numbersFor_5 : decode cG_numbersFor 5 = .ok (.iconst 0, 1) := by decide +kernel
theorem dG_numbersFor_6 : decode cG_numbersFor 6 = .ok (.goto 4, 3) := by decide +kernel
theorem dG_numbersFor_9 : decode cG_numbersFor 9 = .ok (.iload_n 0, 1) := by decide +kernel
theorem dG_numbersFor_10 : decode cG_numbersFor 10 = .ok (.iload_n 3, 1) := by decide +kernel
theorem dG_numbersFor_11 : decode cG_numbersFor 11 = .ok (.iconst 1, 1) := by decide +kernel
theorem dG_numbersFor_12 : decode cG_numbersFor 12 = .ok (.if_icmp .ne 7, 3) := by decide +kernel
theorem dG_numbersFor_15 : decode cG_numbersFor 15 = .ok (.iconst 0, 1) := by decide +kernel
theorem dG_numbersFor_16 : decode cG_numbersFor 16 = .ok (.goto 4, 3) := by decide +kernel
theorem dG_numbersFor_19 : decode cG_numbersFor 19 = .ok (.iload_n 2, 1) := by decide +kernel
theorem dG_numbersFor_20 : decode cG_numbersFor 20 = .ok (.invokestatic 88, 3) := by decide +kernel
theorem dG_numbersFor_23 : decode cG_numbersFor 23 = .ok (.istore 4, 2) := by decide +kernel
theorem dG_numbersFor_25 : decode cG_numbersFor 25 = .ok (.iload_n 1, 1) := by decide +kernel
theorem dG_numbersFor_26 : decode cG_numbersFor 26 = .ok (.iconst 1, 1) := by decide +kernel
theorem dG_numbersFor_27 : decode cG_numbersFor 27 = .ok (.if_icmp .ne 7, 3) := by decide +kernel
theorem dG_numbersFor_30 : decode cG_numbersFor 30 = .ok (.iload_n 0, 1) := by decide +kernel
theorem dG_numbersFor_31 : decode cG_numbersFor 31 = .ok (.goto 5, 3) := by decide +kernel
theorem dG_numbersFor_34 : decode cG_numbersFor 34 = .ok (.bipush 16, 2) := by decide +kernel
theorem dG_numbersFor_36 : decode cG_numbersFor 36 = .ok (.iload_n 3, 1) := by decide +kernel
theorem dG_numbersFor_37 : decode cG_numbersFor 37 = .ok (.iconst 1, 1) := by decide +kernel
theorem dG_numbersFor_38 : decode cG_numbersFor 38 = .ok (.if_icmp .ne 7, 3) := by decide +kernel
theorem dG_numbersFor_41 : decode cG_numbersFor 41 = .ok (.iload_n 2, 1) := by decide +kernel
theorem dG_numbersFor_42 : decode cG_numbersFor 42 = .ok (.goto 5, 3) := by decide +kernel
theorem dG_numbersFor_45 : decode cG_numbersFor 45 = .ok (.bipush 16, 2) := by decide +kernel
theorem dG_numbersFor_47 : decode cG_numbersFor 47 = .ok (.invokestatic 93, 3) := by decide +kernel
theorem dG_numbersFor_50 : decode cG_numbersFor 50 = .ok (.istore 5, 2) := by decide +kernel
theorem dG_numbersFor_52 : decode cG_numbersFor 52 = .ok (.iconst 0, 1) := by decide +kernel
theorem dG_numbersFor_53 : decode cG_numbersFor 53 = .ok (.iload 5, 2) := by decide +kernel
theorem dG_numbersFor_55 : decode cG_numbersFor 55 = .ok (.iload 4, 2) := by decide +kernel
theorem dG_numbersFor_57 : decode cG_numbersFor 57 = .ok (.isub, 1) := by decide +kernel
theorem dG_numbersFor_58 : decode cG_numbersFor 58 = .ok (.invokestatic 88, 3) := by decide +kernel
theorem dG_numbersFor_61 : decode cG_numbersFor 61 = .ok (.ireturn, 1) := by decide +kernel
theorem tw_2_167 : (Jvm.Cond.methodLink "ActSurgery$Graph" (88 : Nat) ({ cls := "java/lang/Math", name := "max", desc := "(II)I" } : Jvm.MethodName)) ∈ x_GT := x_t2 167 rfl rfl
theorem tw_2_170 : (Jvm.Cond.methodLink "ActSurgery$Graph" (93 : Nat) ({ cls := "java/lang/Math", name := "min", desc := "(II)I" } : Jvm.MethodName)) ∈ x_GT := x_t2 170 rfl rfl
theorem tw_2_171 : (Jvm.Cond.static ({ cls := "java/lang/Math", name := "min", desc := "(II)I" } : Jvm.MethodName)) ∈ x_GT := x_t2 171 rfl rfl
theorem tw_2_172 : (Jvm.Cond.code ({ cls := "java/lang/Math", name := "min", desc := "(II)I" } : Jvm.MethodName) prog_9_method_69_code (2 : Nat) (Option.some Jvm.ClassFile.FieldType.int)) ∈ x_GT := x_t2 172 rfl rfl
def fG_numbersFor  (v0 : Int32) (v1 : Int32) (v2 : Int32) (v3 : Int32) : Int32 :=
  if v1 = (1 : Int32) then
    if v3 = (1 : Int32) then
      if v1 = (1 : Int32) then
        if v3 = (1 : Int32) then
          (if (0 : Int32) < ((if v2 < v0 then v2 else v0) - (if (0 : Int32) < (0 : Int32) then (0 : Int32) else (0 : Int32))) then ((if v2 < v0 then v2 else v0) - (if (0 : Int32) < (0 : Int32) then (0 : Int32) else (0 : Int32))) else (0 : Int32))
        else
          (if (0 : Int32) < ((if (16 : Int32) < v0 then (16 : Int32) else v0) - (if (0 : Int32) < (0 : Int32) then (0 : Int32) else (0 : Int32))) then ((if (16 : Int32) < v0 then (16 : Int32) else v0) - (if (0 : Int32) < (0 : Int32) then (0 : Int32) else (0 : Int32))) else (0 : Int32))
      else
        if v3 = (1 : Int32) then
          (if (0 : Int32) < ((if v2 < (16 : Int32) then v2 else (16 : Int32)) - (if (0 : Int32) < (0 : Int32) then (0 : Int32) else (0 : Int32))) then ((if v2 < (16 : Int32) then v2 else (16 : Int32)) - (if (0 : Int32) < (0 : Int32) then (0 : Int32) else (0 : Int32))) else (0 : Int32))
        else
          (if (0 : Int32) < ((if (16 : Int32) < (16 : Int32) then (16 : Int32) else (16 : Int32)) - (if (0 : Int32) < (0 : Int32) then (0 : Int32) else (0 : Int32))) then ((if (16 : Int32) < (16 : Int32) then (16 : Int32) else (16 : Int32)) - (if (0 : Int32) < (0 : Int32) then (0 : Int32) else (0 : Int32))) else (0 : Int32))
    else
      if v1 = (1 : Int32) then
        if v3 = (1 : Int32) then
          (if (0 : Int32) < ((if v2 < v0 then v2 else v0) - (if (0 : Int32) < v2 then v2 else (0 : Int32))) then ((if v2 < v0 then v2 else v0) - (if (0 : Int32) < v2 then v2 else (0 : Int32))) else (0 : Int32))
        else
          (if (0 : Int32) < ((if (16 : Int32) < v0 then (16 : Int32) else v0) - (if (0 : Int32) < v2 then v2 else (0 : Int32))) then ((if (16 : Int32) < v0 then (16 : Int32) else v0) - (if (0 : Int32) < v2 then v2 else (0 : Int32))) else (0 : Int32))
      else
        if v3 = (1 : Int32) then
          (if (0 : Int32) < ((if v2 < (16 : Int32) then v2 else (16 : Int32)) - (if (0 : Int32) < v2 then v2 else (0 : Int32))) then ((if v2 < (16 : Int32) then v2 else (16 : Int32)) - (if (0 : Int32) < v2 then v2 else (0 : Int32))) else (0 : Int32))
        else
          (if (0 : Int32) < ((if (16 : Int32) < (16 : Int32) then (16 : Int32) else (16 : Int32)) - (if (0 : Int32) < v2 then v2 else (0 : Int32))) then ((if (16 : Int32) < (16 : Int32) then (16 : Int32) else (16 : Int32)) - (if (0 : Int32) < v2 then v2 else (0 : Int32))) else (0 : Int32))
  else
    if v3 = (1 : Int32) then
      if v1 = (1 : Int32) then
        if v3 = (1 : Int32) then
          (if (0 : Int32) < ((if v2 < v0 then v2 else v0) - (if v0 < (0 : Int32) then (0 : Int32) else v0)) then ((if v2 < v0 then v2 else v0) - (if v0 < (0 : Int32) then (0 : Int32) else v0)) else (0 : Int32))
        else
          (if (0 : Int32) < ((if (16 : Int32) < v0 then (16 : Int32) else v0) - (if v0 < (0 : Int32) then (0 : Int32) else v0)) then ((if (16 : Int32) < v0 then (16 : Int32) else v0) - (if v0 < (0 : Int32) then (0 : Int32) else v0)) else (0 : Int32))
      else
        if v3 = (1 : Int32) then
          (if (0 : Int32) < ((if v2 < (16 : Int32) then v2 else (16 : Int32)) - (if v0 < (0 : Int32) then (0 : Int32) else v0)) then ((if v2 < (16 : Int32) then v2 else (16 : Int32)) - (if v0 < (0 : Int32) then (0 : Int32) else v0)) else (0 : Int32))
        else
          (if (0 : Int32) < ((if (16 : Int32) < (16 : Int32) then (16 : Int32) else (16 : Int32)) - (if v0 < (0 : Int32) then (0 : Int32) else v0)) then ((if (16 : Int32) < (16 : Int32) then (16 : Int32) else (16 : Int32)) - (if v0 < (0 : Int32) then (0 : Int32) else v0)) else (0 : Int32))
    else
      if v1 = (1 : Int32) then
        if v3 = (1 : Int32) then
          (if (0 : Int32) < ((if v2 < v0 then v2 else v0) - (if v0 < v2 then v2 else v0)) then ((if v2 < v0 then v2 else v0) - (if v0 < v2 then v2 else v0)) else (0 : Int32))
        else
          (if (0 : Int32) < ((if (16 : Int32) < v0 then (16 : Int32) else v0) - (if v0 < v2 then v2 else v0)) then ((if (16 : Int32) < v0 then (16 : Int32) else v0) - (if v0 < v2 then v2 else v0)) else (0 : Int32))
      else
        if v3 = (1 : Int32) then
          (if (0 : Int32) < ((if v2 < (16 : Int32) then v2 else (16 : Int32)) - (if v0 < v2 then v2 else v0)) then ((if v2 < (16 : Int32) then v2 else (16 : Int32)) - (if v0 < v2 then v2 else v0)) else (0 : Int32))
        else
          (if (0 : Int32) < ((if (16 : Int32) < (16 : Int32) then (16 : Int32) else (16 : Int32)) - (if v0 < v2 then v2 else v0)) then ((if (16 : Int32) < (16 : Int32) then (16 : Int32) else (16 : Int32)) - (if v0 < v2 then v2 else v0)) else (0 : Int32))
set_option maxHeartbeats 4000000 in
set_option maxRecDepth 100000 in
theorem mG_numbersFor (d : Nat) (hd : 1 ≤ d) {K : Option Value → x_W → Prop} {w : x_W} {v0 : Int32} {v1 : Int32} {v2 : Int32} {v3 : Int32} {r : Int32} (h : fG_numbersFor v0 v1 v2 v3 = r) (hK : K (some (.int r)) w) : x_M yG_numbersFor cG_numbersFor 6 (some .int) d 0 0 [.int v0, .int v1, .int v2, .int v3] w K := by
  refine x_M.of [some (.int v0), some (.int v1), some (.int v2), some (.int v3), none, none] (by decide) rfl (Nat.le_of_ble_eq_true rfl) ?_
  unfold fG_numbersFor at h
  refine g_iload_n 1 (i := 1) dG_numbersFor_0 rfl rfl rfl ?_
  refine g_iconst 2 (1 : Int32) dG_numbersFor_1 rfl (by decide) ?_
  by_cases c1 : v1 = (1 : Int32)
  · rw [if_pos c1] at h
    refine g_icmp_ne_f 5 9 dG_numbersFor_2 (by decide) rfl c1 ?_
    refine g_iconst 6 (0 : Int32) dG_numbersFor_5 rfl (by decide) ?_
    refine g_goto 10 dG_numbersFor_6 (by decide) ?_
    refine g_iload_n 11 (i := 3) dG_numbersFor_10 rfl rfl rfl ?_
    refine g_iconst 12 (1 : Int32) dG_numbersFor_11 rfl (by decide) ?_
    by_cases c2 : v3 = (1 : Int32)
    · rw [if_pos c2] at h
      refine g_icmp_ne_f 15 19 dG_numbersFor_12 (by decide) rfl c2 ?_
      refine g_iconst 16 (0 : Int32) dG_numbersFor_15 rfl (by decide) ?_
      refine g_goto 20 dG_numbersFor_16 (by decide) ?_
      refine g_mmax 23 dG_numbersFor_20 rfl tw_2_167 tw_2_168 tw_1_8 tw_2_169 (x_r1 (Nat.le_trans (by decide) hd)) (x_r60 (Nat.le_trans (by decide) hd)) (Nat.zero_le _) (Nat.zero_le _) (Nat.le_of_ble_eq_true rfl) ?_
      refine g_istore 25 [some (.int v0), some (.int v1), some (.int v2), some (.int v3), some (.int (if (0 : Int32) < (0 : Int32) then (0 : Int32) else (0 : Int32))), none] dG_numbersFor_23 rfl rfl (by decide) ?_
      refine g_iload_n 26 (i := 1) dG_numbersFor_25 rfl rfl rfl ?_
      refine g_iconst 27 (1 : Int32) dG_numbersFor_26 rfl (by decide) ?_
      by_cases c3 : v1 = (1 : Int32)
      · rw [if_pos c3] at h
        refine g_icmp_ne_f 30 34 dG_numbersFor_27 (by decide) rfl c3 ?_
        refine g_iload_n 31 (i := 0) dG_numbersFor_30 rfl rfl rfl ?_
        refine g_goto 36 dG_numbersFor_31 (by decide) ?_
        refine g_iload_n 37 (i := 3) dG_numbersFor_36 rfl rfl rfl ?_
        refine g_iconst 38 (1 : Int32) dG_numbersFor_37 rfl (by decide) ?_
        by_cases c4 : v3 = (1 : Int32)
        · rw [if_pos c4] at h
          refine g_icmp_ne_f 41 45 dG_numbersFor_38 (by decide) rfl c4 ?_
          refine g_iload_n 42 (i := 2) dG_numbersFor_41 rfl rfl rfl ?_
          refine g_goto 47 dG_numbersFor_42 (by decide) ?_
          refine g_mmin 50 dG_numbersFor_47 rfl tw_2_170 tw_2_171 tw_1_8 tw_2_172 (x_r1 (Nat.le_trans (by decide) hd)) (x_r60 (Nat.le_trans (by decide) hd)) (Nat.zero_le _) (Nat.zero_le _) (Nat.le_of_ble_eq_true rfl) ?_
          refine g_istore 52 [some (.int v0), some (.int v1), some (.int v2), some (.int v3), some (.int (if (0 : Int32) < (0 : Int32) then (0 : Int32) else (0 : Int32))), some (.int (if v2 < v0 then v2 else v0))] dG_numbersFor_50 rfl rfl (by decide) ?_
          refine g_iconst 53 (0 : Int32) dG_numbersFor_52 rfl (by decide) ?_
          refine g_iload 55 dG_numbersFor_53 rfl rfl ?_
          refine g_iload 57 dG_numbersFor_55 rfl rfl ?_
          refine g_isub 58 dG_numbersFor_57 rfl ?_
          refine g_mmax 61 dG_numbersFor_58 rfl tw_2_167 tw_2_168 tw_1_8 tw_2_169 (x_r1 (Nat.le_trans (by decide) hd)) (x_r60 (Nat.le_trans (by decide) hd)) (Nat.zero_le _) (Nat.zero_le _) (Nat.le_of_ble_eq_true rfl) ?_
          subst h
          exact g_iret rfl dG_numbersFor_61 hK
        · rw [if_neg c4] at h
          refine g_icmp_ne_t 45 dG_numbersFor_38 (by decide) c4 ?_
          refine g_bipush 47 (16 : Int32) dG_numbersFor_45 rfl (by decide) ?_
          refine g_mmin 50 dG_numbersFor_47 rfl tw_2_170 tw_2_171 tw_1_8 tw_2_172 (x_r1 (Nat.le_trans (by decide) hd)) (x_r60 (Nat.le_trans (by decide) hd)) (Nat.zero_le _) (Nat.zero_le _) (Nat.le_of_ble_eq_true rfl) ?_
          refine g_istore 52 [some (.int v0), some (.int v1), some (.int v2), some (.int v3), some (.int (if (0 : Int32) < (0 : Int32) then (0 : Int32) else (0 : Int32))), some (.int (if (16 : Int32) < v0 then (16 : Int32) else v0))] dG_numbersFor_50 rfl rfl (by decide) ?_
          refine g_iconst 53 (0 : Int32) dG_numbersFor_52 rfl (by decide) ?_
          refine g_iload 55 dG_numbersFor_53 rfl rfl ?_
          refine g_iload 57 dG_numbersFor_55 rfl rfl ?_
          refine g_isub 58 dG_numbersFor_57 rfl ?_
          refine g_mmax 61 dG_numbersFor_58 rfl tw_2_167 tw_2_168 tw_1_8 tw_2_169 (x_r1 (Nat.le_trans (by decide) hd)) (x_r60 (Nat.le_trans (by decide) hd)) (Nat.zero_le _) (Nat.zero_le _) (Nat.le_of_ble_eq_true rfl) ?_
          subst h
          exact g_iret rfl dG_numbersFor_61 hK
      · rw [if_neg c3] at h
        refine g_icmp_ne_t 34 dG_numbersFor_27 (by decide) c3 ?_
        refine g_bipush 36 (16 : Int32) dG_numbersFor_34 rfl (by decide) ?_
        refine g_iload_n 37 (i := 3) dG_numbersFor_36 rfl rfl rfl ?_
        refine g_iconst 38 (1 : Int32) dG_numbersFor_37 rfl (by decide) ?_
        by_cases c5 : v3 = (1 : Int32)
        · rw [if_pos c5] at h
          refine g_icmp_ne_f 41 45 dG_numbersFor_38 (by decide) rfl c5 ?_
          refine g_iload_n 42 (i := 2) dG_numbersFor_41 rfl rfl rfl ?_
          refine g_goto 47 dG_numbersFor_42 (by decide) ?_
          refine g_mmin 50 dG_numbersFor_47 rfl tw_2_170 tw_2_171 tw_1_8 tw_2_172 (x_r1 (Nat.le_trans (by decide) hd)) (x_r60 (Nat.le_trans (by decide) hd)) (Nat.zero_le _) (Nat.zero_le _) (Nat.le_of_ble_eq_true rfl) ?_
          refine g_istore 52 [some (.int v0), some (.int v1), some (.int v2), some (.int v3), some (.int (if (0 : Int32) < (0 : Int32) then (0 : Int32) else (0 : Int32))), some (.int (if v2 < (16 : Int32) then v2 else (16 : Int32)))] dG_numbersFor_50 rfl rfl (by decide) ?_
          refine g_iconst 53 (0 : Int32) dG_numbersFor_52 rfl (by decide) ?_
          refine g_iload 55 dG_numbersFor_53 rfl rfl ?_
          refine g_iload 57 dG_numbersFor_55 rfl rfl ?_
          refine g_isub 58 dG_numbersFor_57 rfl ?_
          refine g_mmax 61 dG_numbersFor_58 rfl tw_2_167 tw_2_168 tw_1_8 tw_2_169 (x_r1 (Nat.le_trans (by decide) hd)) (x_r60 (Nat.le_trans (by decide) hd)) (Nat.zero_le _) (Nat.zero_le _) (Nat.le_of_ble_eq_true rfl) ?_
          subst h
          exact g_iret rfl dG_numbersFor_61 hK
        · rw [if_neg c5] at h
          refine g_icmp_ne_t 45 dG_numbersFor_38 (by decide) c5 ?_
          refine g_bipush 47 (16 : Int32) dG_numbersFor_45 rfl (by decide) ?_
          refine g_mmin 50 dG_numbersFor_47 rfl tw_2_170 tw_2_171 tw_1_8 tw_2_172 (x_r1 (Nat.le_trans (by decide) hd)) (x_r60 (Nat.le_trans (by decide) hd)) (Nat.zero_le _) (Nat.zero_le _) (Nat.le_of_ble_eq_true rfl) ?_
          refine g_istore 52 [some (.int v0), some (.int v1), some (.int v2), some (.int v3), some (.int (if (0 : Int32) < (0 : Int32) then (0 : Int32) else (0 : Int32))), some (.int (if (16 : Int32) < (16 : Int32) then (16 : Int32) else (16 : Int32)))] dG_numbersFor_50 rfl rfl (by decide) ?_
          refine g_iconst 53 (0 : Int32) dG_numbersFor_52 rfl (by decide) ?_
          refine g_iload 55 dG_numbersFor_53 rfl rfl ?_
          refine g_iload 57 dG_numbersFor_55 rfl rfl ?_
          refine g_isub 58 dG_numbersFor_57 rfl ?_
          refine g_mmax 61 dG_numbersFor_58 rfl tw_2_167 tw_2_168 tw_1_8 tw_2_169 (x_r1 (Nat.le_trans (by decide) hd)) (x_r60 (Nat.le_trans (by decide) hd)) (Nat.zero_le _) (Nat.zero_le _) (Nat.le_of_ble_eq_true rfl) ?_
          subst h
          exact g_iret rfl dG_numbersFor_61 hK
    · rw [if_neg c2] at h
      refine g_icmp_ne_t 19 dG_numbersFor_12 (by decide) c2 ?_
      refine g_iload_n 20 (i := 2) dG_numbersFor_19 rfl rfl rfl ?_
      refine g_mmax 23 dG_numbersFor_20 rfl tw_2_167 tw_2_168 tw_1_8 tw_2_169 (x_r1 (Nat.le_trans (by decide) hd)) (x_r60 (Nat.le_trans (by decide) hd)) (Nat.zero_le _) (Nat.zero_le _) (Nat.le_of_ble_eq_true rfl) ?_
      refine g_istore 25 [some (.int v0), some (.int v1), some (.int v2), some (.int v3), some (.int (if (0 : Int32) < v2 then v2 else (0 : Int32))), none] dG_numbersFor_23 rfl rfl (by decide) ?_
      refine g_iload_n 26 (i := 1) dG_numbersFor_25 rfl rfl rfl ?_
      refine g_iconst 27 (1 : Int32) dG_numbersFor_26 rfl (by decide) ?_
      by_cases c6 : v1 = (1 : Int32)
      · rw [if_pos c6] at h
        refine g_icmp_ne_f 30 34 dG_numbersFor_27 (by decide) rfl c6 ?_
        refine g_iload_n 31 (i := 0) dG_numbersFor_30 rfl rfl rfl ?_
        refine g_goto 36 dG_numbersFor_31 (by decide) ?_
        refine g_iload_n 37 (i := 3) dG_numbersFor_36 rfl rfl rfl ?_
        refine g_iconst 38 (1 : Int32) dG_numbersFor_37 rfl (by decide) ?_
        by_cases c7 : v3 = (1 : Int32)
        · rw [if_pos c7] at h
          refine g_icmp_ne_f 41 45 dG_numbersFor_38 (by decide) rfl c7 ?_
          refine g_iload_n 42 (i := 2) dG_numbersFor_41 rfl rfl rfl ?_
          refine g_goto 47 dG_numbersFor_42 (by decide) ?_
          refine g_mmin 50 dG_numbersFor_47 rfl tw_2_170 tw_2_171 tw_1_8 tw_2_172 (x_r1 (Nat.le_trans (by decide) hd)) (x_r60 (Nat.le_trans (by decide) hd)) (Nat.zero_le _) (Nat.zero_le _) (Nat.le_of_ble_eq_true rfl) ?_
          refine g_istore 52 [some (.int v0), some (.int v1), some (.int v2), some (.int v3), some (.int (if (0 : Int32) < v2 then v2 else (0 : Int32))), some (.int (if v2 < v0 then v2 else v0))] dG_numbersFor_50 rfl rfl (by decide) ?_
          refine g_iconst 53 (0 : Int32) dG_numbersFor_52 rfl (by decide) ?_
          refine g_iload 55 dG_numbersFor_53 rfl rfl ?_
          refine g_iload 57 dG_numbersFor_55 rfl rfl ?_
          refine g_isub 58 dG_numbersFor_57 rfl ?_
          refine g_mmax 61 dG_numbersFor_58 rfl tw_2_167 tw_2_168 tw_1_8 tw_2_169 (x_r1 (Nat.le_trans (by decide) hd)) (x_r60 (Nat.le_trans (by decide) hd)) (Nat.zero_le _) (Nat.zero_le _) (Nat.le_of_ble_eq_true rfl) ?_
          subst h
          exact g_iret rfl dG_numbersFor_61 hK
        · rw [if_neg c7] at h
          refine g_icmp_ne_t 45 dG_numbersFor_38 (by decide) c7 ?_
          refine g_bipush 47 (16 : Int32) dG_numbersFor_45 rfl (by decide) ?_
          refine g_mmin 50 dG_numbersFor_47 rfl tw_2_170 tw_2_171 tw_1_8 tw_2_172 (x_r1 (Nat.le_trans (by decide) hd)) (x_r60 (Nat.le_trans (by decide) hd)) (Nat.zero_le _) (Nat.zero_le _) (Nat.le_of_ble_eq_true rfl) ?_
          refine g_istore 52 [some (.int v0), some (.int v1), some (.int v2), some (.int v3), some (.int (if (0 : Int32) < v2 then v2 else (0 : Int32))), some (.int (if (16 : Int32) < v0 then (16 : Int32) else v0))] dG_numbersFor_50 rfl rfl (by decide) ?_
          refine g_iconst 53 (0 : Int32) dG_numbersFor_52 rfl (by decide) ?_
          refine g_iload 55 dG_numbersFor_53 rfl rfl ?_
          refine g_iload 57 dG_numbersFor_55 rfl rfl ?_
          refine g_isub 58 dG_numbersFor_57 rfl ?_
          refine g_mmax 61 dG_numbersFor_58 rfl tw_2_167 tw_2_168 tw_1_8 tw_2_169 (x_r1 (Nat.le_trans (by decide) hd)) (x_r60 (Nat.le_trans (by decide) hd)) (Nat.zero_le _) (Nat.zero_le _) (Nat.le_of_ble_eq_true rfl) ?_
          subst h
          exact g_iret rfl dG_numbersFor_61 hK
      · rw [if_neg c6] at h
        refine g_icmp_ne_t 34 dG_numbersFor_27 (by decide) c6 ?_
        refine g_bipush 36 (16 : Int32) dG_numbersFor_34 rfl (by decide) ?_
        refine g_iload_n 37 (i := 3) dG_numbersFor_36 rfl rfl rfl ?_
        refine g_iconst 38 (1 : Int32) dG_numbersFor_37 rfl (by decide) ?_
        by_cases c8 : v3 = (1 : Int32)
        · rw [if_pos c8] at h
          refine g_icmp_ne_f 41 45 dG_numbersFor_38 (by decide) rfl c8 ?_
          refine g_iload_n 42 (i := 2) dG_numbersFor_41 rfl rfl rfl ?_
          refine g_goto 47 dG_numbersFor_42 (by decide) ?_
          refine g_mmin 50 dG_numbersFor_47 rfl tw_2_170 tw_2_171 tw_1_8 tw_2_172 (x_r1 (Nat.le_trans (by decide) hd)) (x_r60 (Nat.le_trans (by decide) hd)) (Nat.zero_le _) (Nat.zero_le _) (Nat.le_of_ble_eq_true rfl) ?_
          refine g_istore 52 [some (.int v0), some (.int v1), some (.int v2), some (.int v3), some (.int (if (0 : Int32) < v2 then v2 else (0 : Int32))), some (.int (if v2 < (16 : Int32) then v2 else (16 : Int32)))] dG_numbersFor_50 rfl rfl (by decide) ?_
          refine g_iconst 53 (0 : Int32) dG_numbersFor_52 rfl (by decide) ?_
          refine g_iload 55 dG_numbersFor_53 rfl rfl ?_
          refine g_iload 57 dG_numbersFor_55 rfl rfl ?_
          refine g_isub 58 dG_numbersFor_57 rfl ?_
          refine g_mmax 61 dG_numbersFor_58 rfl tw_2_167 tw_2_168 tw_1_8 tw_2_169 (x_r1 (Nat.le_trans (by decide) hd)) (x_r60 (Nat.le_trans (by decide) hd)) (Nat.zero_le _) (Nat.zero_le _) (Nat.le_of_ble_eq_true rfl) ?_
          subst h
          exact g_iret rfl dG_numbersFor_61 hK
        · rw [if_neg c8] at h
          refine g_icmp_ne_t 45 dG_numbersFor_38 (by decide) c8 ?_
          refine g_bipush 47 (16 : Int32) dG_numbersFor_45 rfl (by decide) ?_
          refine g_mmin 50 dG_numbersFor_47 rfl tw_2_170 tw_2_171 tw_1_8 tw_2_172 (x_r1 (Nat.le_trans (by decide) hd)) (x_r60 (Nat.le_trans (by decide) hd)) (Nat.zero_le _) (Nat.zero_le _) (Nat.le_of_ble_eq_true rfl) ?_
          refine g_istore 52 [some (.int v0), some (.int v1), some (.int v2), some (.int v3), some (.int (if (0 : Int32) < v2 then v2 else (0 : Int32))), some (.int (if (16 : Int32) < (16 : Int32) then (16 : Int32) else (16 : Int32)))] dG_numbersFor_50 rfl rfl (by decide) ?_
          refine g_iconst 53 (0 : Int32) dG_numbersFor_52 rfl (by decide) ?_
          refine g_iload 55 dG_numbersFor_53 rfl rfl ?_
          refine g_iload 57 dG_numbersFor_55 rfl rfl ?_
          refine g_isub 58 dG_numbersFor_57 rfl ?_
          refine g_mmax 61 dG_numbersFor_58 rfl tw_2_167 tw_2_168 tw_1_8 tw_2_169 (x_r1 (Nat.le_trans (by decide) hd)) (x_r60 (Nat.le_trans (by decide) hd)) (Nat.zero_le _) (Nat.zero_le _) (Nat.le_of_ble_eq_true rfl) ?_
          subst h
          exact g_iret rfl dG_numbersFor_61 hK
  · rw [if_neg c1] at h
    refine g_icmp_ne_t 9 dG_numbersFor_2 (by decide) c1 ?_
    refine g_iload_n 10 (i := 0) dG_numbersFor_9 rfl rfl rfl ?_
    refine g_iload_n 11 (i := 3) dG_numbersFor_10 rfl rfl rfl ?_
    refine g_iconst 12 (1 : Int32) dG_numbersFor_11 rfl (by decide) ?_
    by_cases c9 : v3 = (1 : Int32)
    · rw [if_pos c9] at h
      refine g_icmp_ne_f 15 19 dG_numbersFor_12 (by decide) rfl c9 ?_
      refine g_iconst 16 (0 : Int32) dG_numbersFor_15 rfl (by decide) ?_
      refine g_goto 20 dG_numbersFor_16 (by decide) ?_
      refine g_mmax 23 dG_numbersFor_20 rfl tw_2_167 tw_2_168 tw_1_8 tw_2_169 (x_r1 (Nat.le_trans (by decide) hd)) (x_r60 (Nat.le_trans (by decide) hd)) (Nat.zero_le _) (Nat.zero_le _) (Nat.le_of_ble_eq_true rfl) ?_
      refine g_istore 25 [some (.int v0), some (.int v1), some (.int v2), some (.int v3), some (.int (if v0 < (0 : Int32) then (0 : Int32) else v0)), none] dG_numbersFor_23 rfl rfl (by decide) ?_
      refine g_iload_n 26 (i := 1) dG_numbersFor_25 rfl rfl rfl ?_
      refine g_iconst 27 (1 : Int32) dG_numbersFor_26 rfl (by decide) ?_
      by_cases c10 : v1 = (1 : Int32)
      · rw [if_pos c10] at h
        refine g_icmp_ne_f 30 34 dG_numbersFor_27 (by decide) rfl c10 ?_
        refine g_iload_n 31 (i := 0) dG_numbersFor_30 rfl rfl rfl ?_
        refine g_goto 36 dG_numbersFor_31 (by decide) ?_
        refine g_iload_n 37 (i := 3) dG_numbersFor_36 rfl rfl rfl ?_
        refine g_iconst 38 (1 : Int32) dG_numbersFor_37 rfl (by decide) ?_
        by_cases c11 : v3 = (1 : Int32)
        · rw [if_pos c11] at h
          refine g_icmp_ne_f 41 45 dG_numbersFor_38 (by decide) rfl c11 ?_
          refine g_iload_n 42 (i := 2) dG_numbersFor_41 rfl rfl rfl ?_
          refine g_goto 47 dG_numbersFor_42 (by decide) ?_
          refine g_mmin 50 dG_numbersFor_47 rfl tw_2_170 tw_2_171 tw_1_8 tw_2_172 (x_r1 (Nat.le_trans (by decide) hd)) (x_r60 (Nat.le_trans (by decide) hd)) (Nat.zero_le _) (Nat.zero_le _) (Nat.le_of_ble_eq_true rfl) ?_
          refine g_istore 52 [some (.int v0), some (.int v1), some (.int v2), some (.int v3), some (.int (if v0 < (0 : Int32) then (0 : Int32) else v0)), some (.int (if v2 < v0 then v2 else v0))] dG_numbersFor_50 rfl rfl (by decide) ?_
          refine g_iconst 53 (0 : Int32) dG_numbersFor_52 rfl (by decide) ?_
          refine g_iload 55 dG_numbersFor_53 rfl rfl ?_
          refine g_iload 57 dG_numbersFor_55 rfl rfl ?_
          refine g_isub 58 dG_numbersFor_57 rfl ?_
          refine g_mmax 61 dG_numbersFor_58 rfl tw_2_167 tw_2_168 tw_1_8 tw_2_169 (x_r1 (Nat.le_trans (by decide) hd)) (x_r60 (Nat.le_trans (by decide) hd)) (Nat.zero_le _) (Nat.zero_le _) (Nat.le_of_ble_eq_true rfl) ?_
          subst h
          exact g_iret rfl dG_numbersFor_61 hK
        · rw [if_neg c11] at h
          refine g_icmp_ne_t 45 dG_numbersFor_38 (by decide) c11 ?_
          refine g_bipush 47 (16 : Int32) dG_numbersFor_45 rfl (by decide) ?_
          refine g_mmin 50 dG_numbersFor_47 rfl tw_2_170 tw_2_171 tw_1_8 tw_2_172 (x_r1 (Nat.le_trans (by decide) hd)) (x_r60 (Nat.le_trans (by decide) hd)) (Nat.zero_le _) (Nat.zero_le _) (Nat.le_of_ble_eq_true rfl) ?_
          refine g_istore 52 [some (.int v0), some (.int v1), some (.int v2), some (.int v3), some (.int (if v0 < (0 : Int32) then (0 : Int32) else v0)), some (.int (if (16 : Int32) < v0 then (16 : Int32) else v0))] dG_numbersFor_50 rfl rfl (by decide) ?_
          refine g_iconst 53 (0 : Int32) dG_numbersFor_52 rfl (by decide) ?_
          refine g_iload 55 dG_numbersFor_53 rfl rfl ?_
          refine g_iload 57 dG_numbersFor_55 rfl rfl ?_
          refine g_isub 58 dG_numbersFor_57 rfl ?_
          refine g_mmax 61 dG_numbersFor_58 rfl tw_2_167 tw_2_168 tw_1_8 tw_2_169 (x_r1 (Nat.le_trans (by decide) hd)) (x_r60 (Nat.le_trans (by decide) hd)) (Nat.zero_le _) (Nat.zero_le _) (Nat.le_of_ble_eq_true rfl) ?_
          subst h
          exact g_iret rfl dG_numbersFor_61 hK
      · rw [if_neg c10] at h
        refine g_icmp_ne_t 34 dG_numbersFor_27 (by decide) c10 ?_
        refine g_bipush 36 (16 : Int32) dG_numbersFor_34 rfl (by decide) ?_
        refine g_iload_n 37 (i := 3) dG_numbersFor_36 rfl rfl rfl ?_
        refine g_iconst 38 (1 : Int32) dG_numbersFor_37 rfl (by decide) ?_
        by_cases c12 : v3 = (1 : Int32)
        · rw [if_pos c12] at h
          refine g_icmp_ne_f 41 45 dG_numbersFor_38 (by decide) rfl c12 ?_
          refine g_iload_n 42 (i := 2) dG_numbersFor_41 rfl rfl rfl ?_
          refine g_goto 47 dG_numbersFor_42 (by decide) ?_
          refine g_mmin 50 dG_numbersFor_47 rfl tw_2_170 tw_2_171 tw_1_8 tw_2_172 (x_r1 (Nat.le_trans (by decide) hd)) (x_r60 (Nat.le_trans (by decide) hd)) (Nat.zero_le _) (Nat.zero_le _) (Nat.le_of_ble_eq_true rfl) ?_
          refine g_istore 52 [some (.int v0), some (.int v1), some (.int v2), some (.int v3), some (.int (if v0 < (0 : Int32) then (0 : Int32) else v0)), some (.int (if v2 < (16 : Int32) then v2 else (16 : Int32)))] dG_numbersFor_50 rfl rfl (by decide) ?_
          refine g_iconst 53 (0 : Int32) dG_numbersFor_52 rfl (by decide) ?_
          refine g_iload 55 dG_numbersFor_53 rfl rfl ?_
          refine g_iload 57 dG_numbersFor_55 rfl rfl ?_
          refine g_isub 58 dG_numbersFor_57 rfl ?_
          refine g_mmax 61 dG_numbersFor_58 rfl tw_2_167 tw_2_168 tw_1_8 tw_2_169 (x_r1 (Nat.le_trans (by decide) hd)) (x_r60 (Nat.le_trans (by decide) hd)) (Nat.zero_le _) (Nat.zero_le _) (Nat.le_of_ble_eq_true rfl) ?_
          subst h
          exact g_iret rfl dG_numbersFor_61 hK
        · rw [if_neg c12] at h
          refine g_icmp_ne_t 45 dG_numbersFor_38 (by decide) c12 ?_
          refine g_bipush 47 (16 : Int32) dG_numbersFor_45 rfl (by decide) ?_
          refine g_mmin 50 dG_numbersFor_47 rfl tw_2_170 tw_2_171 tw_1_8 tw_2_172 (x_r1 (Nat.le_trans (by decide) hd)) (x_r60 (Nat.le_trans (by decide) hd)) (Nat.zero_le _) (Nat.zero_le _) (Nat.le_of_ble_eq_true rfl) ?_
          refine g_istore 52 [some (.int v0), some (.int v1), some (.int v2), some (.int v3), some (.int (if v0 < (0 : Int32) then (0 : Int32) else v0)), some (.int (if (16 : Int32) < (16 : Int32) then (16 : Int32) else (16 : Int32)))] dG_numbersFor_50 rfl rfl (by decide) ?_
          refine g_iconst 53 (0 : Int32) dG_numbersFor_52 rfl (by decide) ?_
          refine g_iload 55 dG_numbersFor_53 rfl rfl ?_
          refine g_iload 57 dG_numbersFor_55 rfl rfl ?_
          refine g_isub 58 dG_numbersFor_57 rfl ?_
          refine g_mmax 61 dG_numbersFor_58 rfl tw_2_167 tw_2_168 tw_1_8 tw_2_169 (x_r1 (Nat.le_trans (by decide) hd)) (x_r60 (Nat.le_trans (by decide) hd)) (Nat.zero_le _) (Nat.zero_le _) (Nat.le_of_ble_eq_true rfl) ?_
          subst h
          exact g_iret rfl dG_numbersFor_61 hK
    · rw [if_neg c9] at h
      refine g_icmp_ne_t 19 dG_numbersFor_12 (by decide) c9 ?_
      refine g_iload_n 20 (i := 2) dG_numbersFor_19 rfl rfl rfl ?_
      refine g_mmax 23 dG_numbersFor_20 rfl tw_2_167 tw_2_168 tw_1_8 tw_2_169 (x_r1 (Nat.le_trans (by decide) hd)) (x_r60 (Nat.le_trans (by decide) hd)) (Nat.zero_le _) (Nat.zero_le _) (Nat.le_of_ble_eq_true rfl) ?_
      refine g_istore 25 [some (.int v0), some (.int v1), some (.int v2), some (.int v3), some (.int (if v0 < v2 then v2 else v0)), none] dG_numbersFor_23 rfl rfl (by decide) ?_
      refine g_iload_n 26 (i := 1) dG_numbersFor_25 rfl rfl rfl ?_
      refine g_iconst 27 (1 : Int32) dG_numbersFor_26 rfl (by decide) ?_
      by_cases c13 : v1 = (1 : Int32)
      · rw [if_pos c13] at h
        refine g_icmp_ne_f 30 34 dG_numbersFor_27 (by decide) rfl c13 ?_
        refine g_iload_n 31 (i := 0) dG_numbersFor_30 rfl rfl rfl ?_
        refine g_goto 36 dG_numbersFor_31 (by decide) ?_
        refine g_iload_n 37 (i := 3) dG_numbersFor_36 rfl rfl rfl ?_
        refine g_iconst 38 (1 : Int32) dG_numbersFor_37 rfl (by decide) ?_
        by_cases c14 : v3 = (1 : Int32)
        · rw [if_pos c14] at h
          refine g_icmp_ne_f 41 45 dG_numbersFor_38 (by decide) rfl c14 ?_
          refine g_iload_n 42 (i := 2) dG_numbersFor_41 rfl rfl rfl ?_
          refine g_goto 47 dG_numbersFor_42 (by decide) ?_
          refine g_mmin 50 dG_numbersFor_47 rfl tw_2_170 tw_2_171 tw_1_8 tw_2_172 (x_r1 (Nat.le_trans (by decide) hd)) (x_r60 (Nat.le_trans (by decide) hd)) (Nat.zero_le _) (Nat.zero_le _) (Nat.le_of_ble_eq_true rfl) ?_
          refine g_istore 52 [some (.int v0), some (.int v1), some (.int v2), some (.int v3), some (.int (if v0 < v2 then v2 else v0)), some (.int (if v2 < v0 then v2 else v0))] dG_numbersFor_50 rfl rfl (by decide) ?_
          refine g_iconst 53 (0 : Int32) dG_numbersFor_52 rfl (by decide) ?_
          refine g_iload 55 dG_numbersFor_53 rfl rfl ?_
          refine g_iload 57 dG_numbersFor_55 rfl rfl ?_
          refine g_isub 58 dG_numbersFor_57 rfl ?_
          refine g_mmax 61 dG_numbersFor_58 rfl tw_2_167 tw_2_168 tw_1_8 tw_2_169 (x_r1 (Nat.le_trans (by decide) hd)) (x_r60 (Nat.le_trans (by decide) hd)) (Nat.zero_le _) (Nat.zero_le _) (Nat.le_of_ble_eq_true rfl) ?_
          subst h
          exact g_iret rfl dG_numbersFor_61 hK
        · rw [if_neg c14] at h
          refine g_icmp_ne_t 45 dG_numbersFor_38 (by decide) c14 ?_
          refine g_bipush 47 (16 : Int32) dG_numbersFor_45 rfl (by decide) ?_
          refine g_mmin 50 dG_numbersFor_47 rfl tw_2_170 tw_2_171 tw_1_8 tw_2_172 (x_r1 (Nat.le_trans (by decide) hd)) (x_r60 (Nat.le_trans (by decide) hd)) (Nat.zero_le _) (Nat.zero_le _) (Nat.le_of_ble_eq_true rfl) ?_
          refine g_istore 52 [some (.int v0), some (.int v1), some (.int v2), some (.int v3), some (.int (if v0 < v2 then v2 else v0)), some (.int (if (16 : Int32) < v0 then (16 : Int32) else v0))] dG_numbersFor_50 rfl rfl (by decide) ?_
          refine g_iconst 53 (0 : Int32) dG_numbersFor_52 rfl (by decide) ?_
          refine g_iload 55 dG_numbersFor_53 rfl rfl ?_
          refine g_iload 57 dG_numbersFor_55 rfl rfl ?_
          refine g_isub 58 dG_numbersFor_57 rfl ?_
          refine g_mmax 61 dG_numbersFor_58 rfl tw_2_167 tw_2_168 tw_1_8 tw_2_169 (x_r1 (Nat.le_trans (by decide) hd)) (x_r60 (Nat.le_trans (by decide) hd)) (Nat.zero_le _) (Nat.zero_le _) (Nat.le_of_ble_eq_true rfl) ?_
          subst h
          exact g_iret rfl dG_numbersFor_61 hK
      · rw [if_neg c13] at h
        refine g_icmp_ne_t 34 dG_numbersFor_27 (by decide) c13 ?_
        refine g_bipush 36 (16 : Int32) dG_numbersFor_34 rfl (by decide) ?_
        refine g_iload_n 37 (i := 3) dG_numbersFor_36 rfl rfl rfl ?_
        refine g_iconst 38 (1 : Int32) dG_numbersFor_37 rfl (by decide) ?_
        by_cases c15 : v3 = (1 : Int32)
        · rw [if_pos c15] at h
          refine g_icmp_ne_f 41 45 dG_numbersFor_38 (by decide) rfl c15 ?_
          refine g_iload_n 42 (i := 2) dG_numbersFor_41 rfl rfl rfl ?_
          refine g_goto 47 dG_numbersFor_42 (by decide) ?_
          refine g_mmin 50 dG_numbersFor_47 rfl tw_2_170 tw_2_171 tw_1_8 tw_2_172 (x_r1 (Nat.le_trans (by decide) hd)) (x_r60 (Nat.le_trans (by decide) hd)) (Nat.zero_le _) (Nat.zero_le _) (Nat.le_of_ble_eq_true rfl) ?_
          refine g_istore 52 [some (.int v0), some (.int v1), some (.int v2), some (.int v3), some (.int (if v0 < v2 then v2 else v0)), some (.int (if v2 < (16 : Int32) then v2 else (16 : Int32)))] dG_numbersFor_50 rfl rfl (by decide) ?_
          refine g_iconst 53 (0 : Int32) dG_numbersFor_52 rfl (by decide) ?_
          refine g_iload 55 dG_numbersFor_53 rfl rfl ?_
          refine g_iload 57 dG_numbersFor_55 rfl rfl ?_
          refine g_isub 58 dG_numbersFor_57 rfl ?_
          refine g_mmax 61 dG_numbersFor_58 rfl tw_2_167 tw_2_168 tw_1_8 tw_2_169 (x_r1 (Nat.le_trans (by decide) hd)) (x_r60 (Nat.le_trans (by decide) hd)) (Nat.zero_le _) (Nat.zero_le _) (Nat.le_of_ble_eq_true rfl) ?_
          subst h
          exact g_iret rfl dG_numbersFor_61 hK
        · rw [if_neg c15] at h
          refine g_icmp_ne_t 45 dG_numbersFor_38 (by decide) c15 ?_
          refine g_bipush 47 (16 : Int32) dG_numbersFor_45 rfl (by decide) ?_
          refine g_mmin 50 dG_numbersFor_47 rfl tw_2_170 tw_2_171 tw_1_8 tw_2_172 (x_r1 (Nat.le_trans (by decide) hd)) (x_r60 (Nat.le_trans (by decide) hd)) (Nat.zero_le _) (Nat.zero_le _) (Nat.le_of_ble_eq_true rfl) ?_
          refine g_istore 52 [some (.int v0), some (.int v1), some (.int v2), some (.int v3), some (.int (if v0 < v2 then v2 else v0)), some (.int (if (16 : Int32) < (16 : Int32) then (16 : Int32) else (16 : Int32)))] dG_numbersFor_50 rfl rfl (by decide) ?_
          refine g_iconst 53 (0 : Int32) dG_numbersFor_52 rfl (by decide) ?_
          refine g_iload 55 dG_numbersFor_53 rfl rfl ?_
          refine g_iload 57 dG_numbersFor_55 rfl rfl ?_
          refine g_isub 58 dG_numbersFor_57 rfl ?_
          refine g_mmax 61 dG_numbersFor_58 rfl tw_2_167 tw_2_168 tw_1_8 tw_2_169 (x_r1 (Nat.le_trans (by decide) hd)) (x_r60 (Nat.le_trans (by decide) hd)) (Nat.zero_le _) (Nat.zero_le _) (Nat.le_of_ble_eq_true rfl) ?_
          subst h
          exact g_iret rfl dG_numbersFor_61 hK
/-! ActSurgery$World.takes(II)Z: level P -/
theorem dO_takes_0 : decode cO_takes 0 = .ok (.aload_n 0, 1) := by decide +kernel
theorem dO_takes_1 : decode cO_takes 1 = .ok (.getfield 18, 3) := by decide +kernel
theorem dO_takes_4 : decode cO_takes 4 = .ok (.iload_n 1, 1) := by decide +kernel
theorem dO_takes_5 : decode cO_takes 5 = .ok (.invokestatic 24, 3) := by decide +kernel
theorem dO_takes_8 : decode cO_takes 8 = .ok (.ifCond .eq 24, 3) := by decide +kernel
theorem dO_takes_11 : decode cO_takes 11 = .ok (.aload_n 0, 1) := by decide +kernel
theorem dO_takes_12 : decode cO_takes 12 = .ok (.getfield 21, 3) := by decide +kernel
theorem dO_takes_15 : decode cO_takes 15 = .ok (.iload_n 1, 1) := by decide +kernel
theorem dO_takes_16 : decode cO_takes 16 = .ok (.invokestatic 24, 3) := by decide +kernel
theorem dO_takes_19 : decode cO_takes 19 = .ok (.iload_n 2, 1) := by decide +kernel
theorem dO_takes_20 : decode cO_takes 20 = .ok (.iconst 1, 1) := by decide +kernel
theorem dO_takes_21 : decode cO_takes 21 = .ok (.if_icmp .ne 7, 3) := by decide +kernel
theorem dO_takes_24 : decode cO_takes 24 = .ok (.iconst 1, 1) := by decide +kernel
theorem dO_takes_25 : decode cO_takes 25 = .ok (.goto 4, 3) := by decide +kernel
theorem dO_takes_28 : decode cO_takes 28 = .ok (.iconst 0, 1) := by decide +kernel
theorem dO_takes_29 : decode cO_takes 29 = .ok (.if_icmp .ne 7, 3) := by decide +kernel
theorem dO_takes_32 : decode cO_takes 32 = .ok (.iconst 1, 1) := by decide +kernel
theorem dO_takes_33 : decode cO_takes 33 = .ok (.goto 4, 3) := by decide +kernel
theorem dO_takes_36 : decode cO_takes 36 = .ok (.iconst 0, 1) := by decide +kernel
theorem dO_takes_37 : decode cO_takes 37 = .ok (.ireturn, 1) := by decide +kernel
theorem tw_1_104 : (Jvm.Cond.fieldLink "ActSurgery$World" (18 : Nat) "ActSurgery$World" "asked" "I") ∈ x_GT := x_t1 104 rfl rfl
theorem kO_24 : x_kSN "ActSurgery$World" 24 yA_has cA_has 2 (some .boolean) 2 "ActSurgery" := ⟨tw_1_168, tw_1_169, tw_1_1, (List.mem_of_getElem? (i := 7) rfl), (by decide +kernel)⟩
theorem tw_1_105 : (Jvm.Cond.fieldLink "ActSurgery$World" (21 : Nat) "ActSurgery$World" "askedAs" "I") ∈ x_GT := x_t1 105 rfl rfl
def fO_takes (w : x_W) (v0 : Nat) (v1 : Int32) (v2 : Int32) : Option Int32 :=
  (x_fi w v0 3 2).bind fun t1 =>
  if (fA_has t1 v1) = (0 : Int32) then
    some (1 : Int32)
  else
    (x_fi w v0 3 3).bind fun t3 =>
    if v2 = (1 : Int32) then
      if (fA_has t3 v1) = (1 : Int32) then
        some (1 : Int32)
      else
        some (0 : Int32)
    else
      if (fA_has t3 v1) = (0 : Int32) then
        some (1 : Int32)
      else
        some (0 : Int32)
set_option maxHeartbeats 4000000 in
set_option maxRecDepth 100000 in
theorem mO_takes (d : Nat) (hd : 2 ≤ d) {K : Option Value → x_W → Prop} {w : x_W} {v0 : Nat} {v1 : Int32} {v2 : Int32} {r : Int32} (h : fO_takes w v0 v1 v2 = some r) (hK : K (some (.int r)) w) : x_M yO_takes cO_takes 3 (some .boolean) d 0 0 [.ref v0, .int v1, .int v2] w K := by
  refine x_M.of [some (.ref v0), some (.int v1), some (.int v2)] (by decide) rfl (Nat.le_of_ble_eq_true rfl) ?_
  unfold fO_takes at h
  refine g_aload_n 1 (i := 0) dO_takes_0 rfl rfl rfl ?_
  obtain ⟨t1, e1, h⟩ := x_bind h
  refine g_getfI 4 3 2 dO_takes_1 rfl x_in3 tw_1_104 rfl (by decide) e1 ?_
  refine g_iload_n 5 (i := 1) dO_takes_4 rfl rfl rfl ?_
  refine g_cSN 8 (some (.int (fA_has t1 v1))) w [.int t1, .int v1] [] dO_takes_5 rfl (fun _ hK2 => mA_has (d - 1) (by omega) rfl hK2) kO_24 (x_rm (Nat.le_trans (by decide) hd) (by decide)) ⟨Nat.zero_le _, Nat.zero_le _⟩ (Nat.le_of_ble_eq_true rfl) rfl ?_
  by_cases c2 : (fA_has t1 v1) = (0 : Int32)
  · rw [if_pos c2] at h
    refine g_if_eq_t 32 dO_takes_8 (by decide) c2 ?_
    refine g_iconst 33 (1 : Int32) dO_takes_32 rfl (by decide) ?_
    refine g_goto 37 dO_takes_33 (by decide) ?_
    obtain rfl := Option.some.inj h
    exact g_zret rfl (by decide) dO_takes_37 hK
  · rw [if_neg c2] at h
    refine g_if_eq_f 11 32 dO_takes_8 (by decide) rfl c2 ?_
    refine g_aload_n 12 (i := 0) dO_takes_11 rfl rfl rfl ?_
    obtain ⟨t3, e3, h⟩ := x_bind h
    refine g_getfI 15 3 3 dO_takes_12 rfl x_in3 tw_1_105 rfl (by decide) e3 ?_
    refine g_iload_n 16 (i := 1) dO_takes_15 rfl rfl rfl ?_
    refine g_cSN 19 (some (.int (fA_has t3 v1))) w [.int t3, .int v1] [] dO_takes_16 rfl (fun _ hK2 => mA_has (d - 1) (by omega) rfl hK2) kO_24 (x_rm (Nat.le_trans (by decide) hd) (by decide)) ⟨Nat.zero_le _, Nat.zero_le _⟩ (Nat.le_of_ble_eq_true rfl) rfl ?_
    refine g_iload_n 20 (i := 2) dO_takes_19 rfl rfl rfl ?_
    refine g_iconst 21 (1 : Int32) dO_takes_20 rfl (by decide) ?_
    by_cases c4 : v2 = (1 : Int32)
    · rw [if_pos c4] at h
      refine g_icmp_ne_f 24 28 dO_takes_21 (by decide) rfl c4 ?_
      refine g_iconst 25 (1 : Int32) dO_takes_24 rfl (by decide) ?_
      refine g_goto 29 dO_takes_25 (by decide) ?_
      by_cases c5 : (fA_has t3 v1) = (1 : Int32)
      · rw [if_pos c5] at h
        refine g_icmp_ne_f 32 36 dO_takes_29 (by decide) rfl c5 ?_
        refine g_iconst 33 (1 : Int32) dO_takes_32 rfl (by decide) ?_
        refine g_goto 37 dO_takes_33 (by decide) ?_
        obtain rfl := Option.some.inj h
        exact g_zret rfl (by decide) dO_takes_37 hK
      · rw [if_neg c5] at h
        refine g_icmp_ne_t 36 dO_takes_29 (by decide) c5 ?_
        refine g_iconst 37 (0 : Int32) dO_takes_36 rfl (by decide) ?_
        obtain rfl := Option.some.inj h
        exact g_zret rfl (by decide) dO_takes_37 hK
    · rw [if_neg c4] at h
      refine g_icmp_ne_t 28 dO_takes_21 (by decide) c4 ?_
      refine g_iconst 29 (0 : Int32) dO_takes_28 rfl (by decide) ?_
      by_cases c6 : (fA_has t3 v1) = (0 : Int32)
      · rw [if_pos c6] at h
        refine g_icmp_ne_f 32 36 dO_takes_29 (by decide) rfl c6 ?_
        refine g_iconst 33 (1 : Int32) dO_takes_32 rfl (by decide) ?_
        refine g_goto 37 dO_takes_33 (by decide) ?_
        obtain rfl := Option.some.inj h
        exact g_zret rfl (by decide) dO_takes_37 hK
      · rw [if_neg c6] at h
        refine g_icmp_ne_t 36 dO_takes_29 (by decide) c6 ?_
        refine g_iconst 37 (0 : Int32) dO_takes_36 rfl (by decide) ?_
        obtain rfl := Option.some.inj h
        exact g_zret rfl (by decide) dO_takes_37 hK
/-! ActSurgery$World.weightIn(II)I: level P -/
theorem dO_weightIn_0 : decode cO_weightIn 0 = .ok (.aload_n 0, 1) := by decide +kernel
theorem dO_weightIn_1 : decode cO_weightIn 1 = .ok (.getfield 9, 3) := by decide +kernel
theorem dO_weightIn_4 : decode cO_weightIn 4 = .ok (.iload_n 1, 1) := by decide +kernel
theorem dO_weightIn_5 : decode cO_weightIn 5 = .ok (.invokestatic 24, 3) := by decide +kernel
theorem dO_weightIn_8 : decode cO_weightIn 8 = .ok (.ifCond .ne 5, 3) := by decide +kernel
theorem dO_weightIn_11 : decode cO_weightIn 11 = .ok (.iload_n 2, 1) := by decide +kernel
theorem dO_weightIn_12 : decode cO_weightIn 12 = .ok (.ireturn, 1) := by decide +kernel
theorem dO_weightIn_13 : decode cO_weightIn 13 = .ok (.aload_n 0, 1) := by decide +kernel
theorem dO_weightIn_14 : decode cO_weightIn 14 = .ok (.getfield 15, 3) := by decide +kernel
theorem dO_weightIn_17 : decode cO_weightIn 17 = .ok (.iload_n 1, 1) := by decide +kernel
theorem dO_weightIn_18 : decode cO_weightIn 18 = .ok (.invokestatic 24, 3) := by decide +kernel
theorem dO_weightIn_21 : decode cO_weightIn 21 = .ok (.ifCond .eq 8, 3) := by decide +kernel
theorem dO_weightIn_24 : decode cO_weightIn 24 = .ok (.bipush 16, 2) := by decide +kernel
theorem dO_weightIn_26 : decode cO_weightIn 26 = .ok (.goto 4, 3) := by decide +kernel
theorem dO_weightIn_29 : decode cO_weightIn 29 = .ok (.iconst 0, 1) := by decide +kernel
theorem dO_weightIn_30 : decode cO_weightIn 30 = .ok (.ireturn, 1) := by decide +kernel
theorem tw_1_102 : (Jvm.Cond.fieldLink "ActSurgery$World" (9 : Nat) "ActSurgery$World" "made" "I") ∈ x_GT := x_t1 102 rfl rfl
theorem tw_1_103 : (Jvm.Cond.fieldLink "ActSurgery$World" (15 : Nat) "ActSurgery$World" "madeAs" "I") ∈ x_GT := x_t1 103 rfl rfl
def fO_weightIn (w : x_W) (v0 : Nat) (v1 : Int32) (v2 : Int32) : Option Int32 :=
  (x_fi w v0 3 0).bind fun t1 =>
  if (fA_has t1 v1) = (0 : Int32) then
    some v2
  else
    (x_fi w v0 3 1).bind fun t3 =>
    if (fA_has t3 v1) = (0 : Int32) then
      some (0 : Int32)
    else
      some (16 : Int32)
set_option maxHeartbeats 4000000 in
set_option maxRecDepth 100000 in
theorem mO_weightIn (d : Nat) (hd : 2 ≤ d) {K : Option Value → x_W → Prop} {w : x_W} {v0 : Nat} {v1 : Int32} {v2 : Int32} {r : Int32} (h : fO_weightIn w v0 v1 v2 = some r) (hK : K (some (.int r)) w) : x_M yO_weightIn cO_weightIn 3 (some .int) d 0 0 [.ref v0, .int v1, .int v2] w K := by
  refine x_M.of [some (.ref v0), some (.int v1), some (.int v2)] (by decide) rfl (Nat.le_of_ble_eq_true rfl) ?_
  unfold fO_weightIn at h
  refine g_aload_n 1 (i := 0) dO_weightIn_0 rfl rfl rfl ?_
  obtain ⟨t1, e1, h⟩ := x_bind h
  refine g_getfI 4 3 0 dO_weightIn_1 rfl x_in3 tw_1_102 rfl (by decide) e1 ?_
  refine g_iload_n 5 (i := 1) dO_weightIn_4 rfl rfl rfl ?_
  refine g_cSN 8 (some (.int (fA_has t1 v1))) w [.int t1, .int v1] [] dO_weightIn_5 rfl (fun _ hK2 => mA_has (d - 1) (by omega) rfl hK2) kO_24 (x_rm (Nat.le_trans (by decide) hd) (by decide)) ⟨Nat.zero_le _, Nat.zero_le _⟩ (Nat.le_of_ble_eq_true rfl) rfl ?_
  by_cases c2 : (fA_has t1 v1) = (0 : Int32)
  · rw [if_pos c2] at h
    refine g_if_ne_f 11 13 dO_weightIn_8 (by decide) rfl c2 ?_
    refine g_iload_n 12 (i := 2) dO_weightIn_11 rfl rfl rfl ?_
    obtain rfl := Option.some.inj h
    exact g_iret rfl dO_weightIn_12 hK
  · rw [if_neg c2] at h
    refine g_if_ne_t 13 dO_weightIn_8 (by decide) c2 ?_
    refine g_aload_n 14 (i := 0) dO_weightIn_13 rfl rfl rfl ?_
    obtain ⟨t3, e3, h⟩ := x_bind h
    refine g_getfI 17 3 1 dO_weightIn_14 rfl x_in3 tw_1_103 rfl (by decide) e3 ?_
    refine g_iload_n 18 (i := 1) dO_weightIn_17 rfl rfl rfl ?_
    refine g_cSN 21 (some (.int (fA_has t3 v1))) w [.int t3, .int v1] [] dO_weightIn_18 rfl (fun _ hK2 => mA_has (d - 1) (by omega) rfl hK2) kO_24 (x_rm (Nat.le_trans (by decide) hd) (by decide)) ⟨Nat.zero_le _, Nat.zero_le _⟩ (Nat.le_of_ble_eq_true rfl) rfl ?_
    by_cases c4 : (fA_has t3 v1) = (0 : Int32)
    · rw [if_pos c4] at h
      refine g_if_eq_t 29 dO_weightIn_21 (by decide) c4 ?_
      refine g_iconst 30 (0 : Int32) dO_weightIn_29 rfl (by decide) ?_
      obtain rfl := Option.some.inj h
      exact g_iret rfl dO_weightIn_30 hK
    · rw [if_neg c4] at h
      refine g_if_eq_f 24 29 dO_weightIn_21 (by decide) rfl c4 ?_
      refine g_bipush 26 (16 : Int32) dO_weightIn_24 rfl (by decide) ?_
      refine g_goto 30 dO_weightIn_26 (by decide) ?_
      obtain rfl := Option.some.inj h
      exact g_iret rfl dO_weightIn_30 hK
