/-! ActSurgeryModel.partingOf(II)I: level X -/
theorem dM_partingOf_0 : decode cM_partingOf 0 = .ok (.iconst (-1), 1) := by decide +kernel
theorem dM_partingOf_1 : decode cM_partingOf 1 = .ok (.istore_n 3, 1) := by decide +kernel
theorem dM_partingOf_2 : decode cM_partingOf 2 = .ok (.iconst 0, 1) := by decide +kernel
theorem dM_partingOf_3 : decode cM_partingOf 3 = .ok (.istore 4, 2) := by decide +kernel
theorem dM_partingOf_5 : decode cM_partingOf 5 = .ok (.iload 4, 2) := by decide +kernel
theorem dM_partingOf_7 : decode cM_partingOf 7 = .ok (.aload_n 0, 1) := by decide +kernel
theorem dM_partingOf_8 : decode cM_partingOf 8 = .ok (.invokevirtual 52, 3) := by decide +kernel
theorem dM_partingOf_11 : decode cM_partingOf 11 = .ok (.if_icmp .gt 58, 3) := by decide +kernel
theorem dM_partingOf_14 : decode cM_partingOf 14 = .ok (.iload 4, 2) := by decide +kernel
theorem dM_partingOf_16 : decode cM_partingOf 16 = .ok (.iload_n 1, 1) := by decide +kernel
theorem dM_partingOf_17 : decode cM_partingOf 17 = .ok (.invokestatic 62, 3) := by decide +kernel
theorem dM_partingOf_20 : decode cM_partingOf 20 = .ok (.ifCond .ne 43, 3) := by decide +kernel
theorem dM_partingOf_23 : decode cM_partingOf 23 = .ok (.iload 4, 2) := by decide +kernel
theorem dM_partingOf_25 : decode cM_partingOf 25 = .ok (.iload_n 2, 1) := by decide +kernel
theorem dM_partingOf_26 : decode cM_partingOf 26 = .ok (.invokestatic 62, 3) := by decide +kernel
theorem dM_partingOf_29 : decode cM_partingOf 29 = .ok (.ifCond .ne 34, 3) := by decide +kernel
theorem dM_partingOf_32 : decode cM_partingOf 32 = .ok (.iload_n 3, 1) := by decide +kernel
theorem dM_partingOf_33 : decode cM_partingOf 33 = .ok (.iconst (-1), 1) := by decide +kernel
theorem dM_partingOf_34 : decode cM_partingOf 34 = .ok (.if_icmp .eq 15, 3) := by decide +kernel
theorem dM_partingOf_37 : decode cM_partingOf 37 = .ok (.iload 4, 2) := by decide +kernel
theorem dM_partingOf_39 : decode cM_partingOf 39 = .ok (.invokestatic 97, 3) := by decide +kernel
theorem dM_partingOf_42 : decode cM_partingOf 42 = .ok (.iload_n 3, 1) := by decide +kernel
theorem dM_partingOf_43 : decode cM_partingOf 43 = .ok (.invokestatic 97, 3) := by decide +kernel
theorem dM_partingOf_46 : decode cM_partingOf 46 = .ok (.if_icmp .ge 17, 3) := by decide +kernel
theorem dM_partingOf_49 : decode cM_partingOf 49 = .ok (.aload_n 0, 1) := by decide +kernel
theorem dM_partingOf_50 : decode cM_partingOf 50 = .ok (.iload_n 1, 1) := by decide +kernel
theorem dM_partingOf_51 : decode cM_partingOf 51 = .ok (.iload_n 2, 1) := by decide +kernel
theorem dM_partingOf_52 : decode cM_partingOf 52 = .ok (.iload 4, 2) := by decide +kernel
theorem dM_partingOf_54 : decode cM_partingOf 54 = .ok (.invokevirtual 93, 3) := by decide +kernel
theorem dM_partingOf_57 : decode cM_partingOf 57 = .ok (.ifCond .ne 6, 3) := by decide +kernel
theorem dM_partingOf_60 : decode cM_partingOf 60 = .ok (.iload 4, 2) := by decide +kernel
theorem dM_partingOf_62 : decode cM_partingOf 62 = .ok (.istore_n 3, 1) := by decide +kernel
theorem dM_partingOf_63 : decode cM_partingOf 63 = .ok (.iinc 4 1, 3) := by decide +kernel
theorem dM_partingOf_66 : decode cM_partingOf 66 = .ok (.goto (-61), 3) := by decide +kernel
theorem dM_partingOf_69 : decode cM_partingOf 69 = .ok (.iload_n 3, 1) := by decide +kernel
theorem dM_partingOf_70 : decode cM_partingOf 70 = .ok (.ireturn, 1) := by decide +kernel
theorem tw_3_119 : (Jvm.Cond.static ({ cls := "ActSurgeryModel", name := "ones", desc := "(I)I" } : Jvm.MethodName)) ∈ x_GT := x_t3 119 rfl rfl
theorem tw_3_120 : (Jvm.Cond.code ({ cls := "ActSurgeryModel", name := "ones", desc := "(I)I" } : Jvm.MethodName) prog_7_method_9_code (3 : Nat) (Option.some Jvm.ClassFile.FieldType.int)) ∈ x_GT := x_t3 120 rfl rfl
theorem tw_3_118 : (Jvm.Cond.methodLink "ActSurgeryModel" (97 : Nat) ({ cls := "ActSurgeryModel", name := "ones", desc := "(I)I" } : Jvm.MethodName)) ∈ x_GT := x_t3 118 rfl rfl
theorem kM_97 : x_kS "ActSurgeryModel" 97 yM_ones cM_ones 3 (some .int) 1 := ⟨tw_3_119, tw_3_120, tw_1_6, tw_3_118, (by decide +kernel)⟩
def fM_partingOf_5  : Nat → x_W → Nat → Int32 → Int32 → Int32 → Int32 → Option (Int32 × x_W)
  | 0, _, _, _, _, _, _ => none
  | n + 1, w, v0, v1, v2, v3, v4 =>
    (x_ob w v0 5).bind fun _ =>
    (fM_all w v0).bind fun t2 =>
    if t2 < v4 then
      some (v3, w)
    else
      if (fM_has v4 v1) = (0 : Int32) then
        if (fM_has v4 v2) = (0 : Int32) then
          if v3 = (-1 : Int32) then
            (fM_waysOf w v0 v1 v2 v4).bind fun q7 =>
            if q7.1 = (0 : Int32) then
              fM_partingOf_5 n q7.2 v0 v1 v2 v4 (v4 + (1 : Int32))
            else
              fM_partingOf_5 n q7.2 v0 v1 v2 v3 (v4 + (1 : Int32))
          else
            (fM_ones v4).bind fun t9 =>
            (fM_ones v3).bind fun t10 =>
            if t10 ≤ t9 then
              fM_partingOf_5 n w v0 v1 v2 v3 (v4 + (1 : Int32))
            else
              (fM_waysOf w v0 v1 v2 v4).bind fun q12 =>
              if q12.1 = (0 : Int32) then
                fM_partingOf_5 n q12.2 v0 v1 v2 v4 (v4 + (1 : Int32))
              else
                fM_partingOf_5 n q12.2 v0 v1 v2 v3 (v4 + (1 : Int32))
        else
          fM_partingOf_5 n w v0 v1 v2 v3 (v4 + (1 : Int32))
      else
        fM_partingOf_5 n w v0 v1 v2 v3 (v4 + (1 : Int32))
def fM_partingOf  (w : x_W) (v0 : Nat) (v1 : Int32) (v2 : Int32) : Option (Int32 × x_W) :=
  fM_partingOf_5 x_F w v0 v1 v2 (-1 : Int32) (0 : Int32)
set_option maxHeartbeats 4000000 in
set_option maxRecDepth 100000 in
theorem lM_partingOf_5 (d : Nat) (hd : 8 ≤ d) {K : Option Value → x_W → Prop} {r : (Int32 × x_W)} (hK : K (some (.int r.1)) r.2) : ∀ (n : Nat) (w : x_W) (v0 : Nat) (v1 : Int32) (v2 : Int32) (v3 : Int32) (v4 : Int32), fM_partingOf_5 n w v0 v1 v2 v3 v4 = some r → x_G none yM_partingOf cM_partingOf 5 (some .int) (x_room d 0 0) (x_QM K 0 0) 5 [some (.ref v0), some (.int v1), some (.int v2), some (.int v3), some (.int v4)] [] w 0 0 := by
  intro n
  induction n with
  | zero => intro w v0 v1 v2 v3 v4 h; rw [fM_partingOf_5] at h; cases h
  | succ n ih =>
    intro w v0 v1 v2 v3 v4 h
    rw [fM_partingOf_5] at h
    refine g_iload 7 dM_partingOf_5 rfl rfl ?_
    refine g_aload_n 8 (i := 0) dM_partingOf_7 rfl rfl rfl ?_
    obtain ⟨_, e1, h⟩ := x_bind h
    obtain ⟨t2, e2, h⟩ := x_bind h
    refine g_cV 11 (some (.int t2)) w [] [.int v4] dM_partingOf_8 rfl (fun _ hK2 => mM_all (d - 1) (by omega) e2 hK2) (x_ob_some e1) kM_52 (x_rm (Nat.le_trans (by decide) hd) (by decide)) ⟨Nat.zero_le _, Nat.zero_le _⟩ (Nat.le_of_ble_eq_true rfl) rfl ?_
    by_cases c3 : t2 < v4
    · rw [if_pos c3] at h
      refine g_icmp_gt_t 69 dM_partingOf_11 (by decide) c3 ?_
      refine g_iload_n 70 (i := 3) dM_partingOf_69 rfl rfl rfl ?_
      obtain rfl := Option.some.inj h
      exact g_iret rfl dM_partingOf_70 hK
    · rw [if_neg c3] at h
      refine g_icmp_gt_f 14 69 dM_partingOf_11 (by decide) rfl c3 ?_
      refine g_iload 16 dM_partingOf_14 rfl rfl ?_
      refine g_iload_n 17 (i := 1) dM_partingOf_16 rfl rfl rfl ?_
      refine g_cS 20 (some (.int (fM_has v4 v1))) w [.int v4, .int v1] [] dM_partingOf_17 rfl (fun _ hK2 => mM_has (d - 1) (by omega) rfl hK2) kM_62 (x_rm (Nat.le_trans (by decide) hd) (by decide)) ⟨Nat.zero_le _, Nat.zero_le _⟩ (Nat.le_of_ble_eq_true rfl) rfl ?_
      by_cases c4 : (fM_has v4 v1) = (0 : Int32)
      · rw [if_pos c4] at h
        refine g_if_ne_f 23 63 dM_partingOf_20 (by decide) rfl c4 ?_
        refine g_iload 25 dM_partingOf_23 rfl rfl ?_
        refine g_iload_n 26 (i := 2) dM_partingOf_25 rfl rfl rfl ?_
        refine g_cS 29 (some (.int (fM_has v4 v2))) w [.int v4, .int v2] [] dM_partingOf_26 rfl (fun _ hK2 => mM_has (d - 1) (by omega) rfl hK2) kM_62 (x_rm (Nat.le_trans (by decide) hd) (by decide)) ⟨Nat.zero_le _, Nat.zero_le _⟩ (Nat.le_of_ble_eq_true rfl) rfl ?_
        by_cases c5 : (fM_has v4 v2) = (0 : Int32)
        · rw [if_pos c5] at h
          refine g_if_ne_f 32 63 dM_partingOf_29 (by decide) rfl c5 ?_
          refine g_iload_n 33 (i := 3) dM_partingOf_32 rfl rfl rfl ?_
          refine g_iconst 34 (-1 : Int32) dM_partingOf_33 rfl (by decide) ?_
          by_cases c6 : v3 = (-1 : Int32)
          · rw [if_pos c6] at h
            refine g_icmp_eq_t 49 dM_partingOf_34 (by decide) c6 ?_
            refine g_aload_n 50 (i := 0) dM_partingOf_49 rfl rfl rfl ?_
            refine g_iload_n 51 (i := 1) dM_partingOf_50 rfl rfl rfl ?_
            refine g_iload_n 52 (i := 2) dM_partingOf_51 rfl rfl rfl ?_
            refine g_iload 54 dM_partingOf_52 rfl rfl ?_
            obtain ⟨q7, e7, h⟩ := x_bind h
            refine g_cV 57 (some (.int q7.1)) q7.2 [.int v1, .int v2, .int v4] [] dM_partingOf_54 rfl (fun _ hK2 => mM_waysOf (d - 1) (by omega) e7 hK2) (x_ob_some e1) kM_93 (x_rm (Nat.le_trans (by decide) hd) (by decide)) ⟨Nat.zero_le _, Nat.zero_le _⟩ (Nat.le_of_ble_eq_true rfl) rfl ?_
            by_cases c8 : q7.1 = (0 : Int32)
            · rw [if_pos c8] at h
              refine g_if_ne_f 60 63 dM_partingOf_57 (by decide) rfl c8 ?_
              refine g_iload 62 dM_partingOf_60 rfl rfl ?_
              refine g_istore_n 63 (i := 3) [some (.ref v0), some (.int v1), some (.int v2), some (.int v4), some (.int v4)] dM_partingOf_62 rfl rfl rfl (by decide) ?_
              refine g_iinc 66 [some (.ref v0), some (.int v1), some (.int v2), some (.int v4), some (.int (v4 + (1 : Int32)))] dM_partingOf_63 rfl rfl (x_inc (1 : Int32) (by decide)) rfl (by decide) ?_
              refine g_goto 5 dM_partingOf_66 (by decide) ?_
              exact ih _ _ _ _ _ _ h
            · rw [if_neg c8] at h
              refine g_if_ne_t 63 dM_partingOf_57 (by decide) c8 ?_
              refine g_iinc 66 [some (.ref v0), some (.int v1), some (.int v2), some (.int v3), some (.int (v4 + (1 : Int32)))] dM_partingOf_63 rfl rfl (x_inc (1 : Int32) (by decide)) rfl (by decide) ?_
              refine g_goto 5 dM_partingOf_66 (by decide) ?_
              exact ih _ _ _ _ _ _ h
          · rw [if_neg c6] at h
            refine g_icmp_eq_f 37 49 dM_partingOf_34 (by decide) rfl c6 ?_
            refine g_iload 39 dM_partingOf_37 rfl rfl ?_
            obtain ⟨t9, e9, h⟩ := x_bind h
            refine g_cS 42 (some (.int t9)) w [.int v4] [] dM_partingOf_39 rfl (fun _ hK2 => mM_ones (d - 1) (by omega) e9 hK2) kM_97 (x_rm (Nat.le_trans (by decide) hd) (by decide)) ⟨Nat.zero_le _, Nat.zero_le _⟩ (Nat.le_of_ble_eq_true rfl) rfl ?_
            refine g_iload_n 43 (i := 3) dM_partingOf_42 rfl rfl rfl ?_
            obtain ⟨t10, e10, h⟩ := x_bind h
            refine g_cS 46 (some (.int t10)) w [.int v3] [.int t9] dM_partingOf_43 rfl (fun _ hK2 => mM_ones (d - 1) (by omega) e10 hK2) kM_97 (x_rm (Nat.le_trans (by decide) hd) (by decide)) ⟨Nat.zero_le _, Nat.zero_le _⟩ (Nat.le_of_ble_eq_true rfl) rfl ?_
            by_cases c11 : t10 ≤ t9
            · rw [if_pos c11] at h
              refine g_icmp_ge_t 63 dM_partingOf_46 (by decide) c11 ?_
              refine g_iinc 66 [some (.ref v0), some (.int v1), some (.int v2), some (.int v3), some (.int (v4 + (1 : Int32)))] dM_partingOf_63 rfl rfl (x_inc (1 : Int32) (by decide)) rfl (by decide) ?_
              refine g_goto 5 dM_partingOf_66 (by decide) ?_
              exact ih _ _ _ _ _ _ h
            · rw [if_neg c11] at h
              refine g_icmp_ge_f 49 63 dM_partingOf_46 (by decide) rfl c11 ?_
              refine g_aload_n 50 (i := 0) dM_partingOf_49 rfl rfl rfl ?_
              refine g_iload_n 51 (i := 1) dM_partingOf_50 rfl rfl rfl ?_
              refine g_iload_n 52 (i := 2) dM_partingOf_51 rfl rfl rfl ?_
              refine g_iload 54 dM_partingOf_52 rfl rfl ?_
              obtain ⟨q12, e12, h⟩ := x_bind h
              refine g_cV 57 (some (.int q12.1)) q12.2 [.int v1, .int v2, .int v4] [] dM_partingOf_54 rfl (fun _ hK2 => mM_waysOf (d - 1) (by omega) e12 hK2) (x_ob_some e1) kM_93 (x_rm (Nat.le_trans (by decide) hd) (by decide)) ⟨Nat.zero_le _, Nat.zero_le _⟩ (Nat.le_of_ble_eq_true rfl) rfl ?_
              by_cases c13 : q12.1 = (0 : Int32)
              · rw [if_pos c13] at h
                refine g_if_ne_f 60 63 dM_partingOf_57 (by decide) rfl c13 ?_
                refine g_iload 62 dM_partingOf_60 rfl rfl ?_
                refine g_istore_n 63 (i := 3) [some (.ref v0), some (.int v1), some (.int v2), some (.int v4), some (.int v4)] dM_partingOf_62 rfl rfl rfl (by decide) ?_
                refine g_iinc 66 [some (.ref v0), some (.int v1), some (.int v2), some (.int v4), some (.int (v4 + (1 : Int32)))] dM_partingOf_63 rfl rfl (x_inc (1 : Int32) (by decide)) rfl (by decide) ?_
                refine g_goto 5 dM_partingOf_66 (by decide) ?_
                exact ih _ _ _ _ _ _ h
              · rw [if_neg c13] at h
                refine g_if_ne_t 63 dM_partingOf_57 (by decide) c13 ?_
                refine g_iinc 66 [some (.ref v0), some (.int v1), some (.int v2), some (.int v3), some (.int (v4 + (1 : Int32)))] dM_partingOf_63 rfl rfl (x_inc (1 : Int32) (by decide)) rfl (by decide) ?_
                refine g_goto 5 dM_partingOf_66 (by decide) ?_
                exact ih _ _ _ _ _ _ h
        · rw [if_neg c5] at h
          refine g_if_ne_t 63 dM_partingOf_29 (by decide) c5 ?_
          refine g_iinc 66 [some (.ref v0), some (.int v1), some (.int v2), some (.int v3), some (.int (v4 + (1 : Int32)))] dM_partingOf_63 rfl rfl (x_inc (1 : Int32) (by decide)) rfl (by decide) ?_
          refine g_goto 5 dM_partingOf_66 (by decide) ?_
          exact ih _ _ _ _ _ _ h
      · rw [if_neg c4] at h
        refine g_if_ne_t 63 dM_partingOf_20 (by decide) c4 ?_
        refine g_iinc 66 [some (.ref v0), some (.int v1), some (.int v2), some (.int v3), some (.int (v4 + (1 : Int32)))] dM_partingOf_63 rfl rfl (x_inc (1 : Int32) (by decide)) rfl (by decide) ?_
        refine g_goto 5 dM_partingOf_66 (by decide) ?_
        exact ih _ _ _ _ _ _ h
set_option maxHeartbeats 4000000 in
set_option maxRecDepth 100000 in
theorem mM_partingOf (d : Nat) (hd : 8 ≤ d) {K : Option Value → x_W → Prop} {w : x_W} {v0 : Nat} {v1 : Int32} {v2 : Int32} {r : (Int32 × x_W)} (h : fM_partingOf w v0 v1 v2 = some r) (hK : K (some (.int r.1)) r.2) : x_M yM_partingOf cM_partingOf 5 (some .int) d 0 0 [.ref v0, .int v1, .int v2] w K := by
  refine x_M.of [some (.ref v0), some (.int v1), some (.int v2), none, none] (by decide) rfl (Nat.le_of_ble_eq_true rfl) ?_
  unfold fM_partingOf at h
  refine g_iconst 1 (-1 : Int32) dM_partingOf_0 rfl (by decide) ?_
  refine g_istore_n 2 (i := 3) [some (.ref v0), some (.int v1), some (.int v2), some (.int (-1 : Int32)), none] dM_partingOf_1 rfl rfl rfl (by decide) ?_
  refine g_iconst 3 (0 : Int32) dM_partingOf_2 rfl (by decide) ?_
  refine g_istore 5 [some (.ref v0), some (.int v1), some (.int v2), some (.int (-1 : Int32)), some (.int (0 : Int32))] dM_partingOf_3 rfl rfl (by decide) ?_
  exact lM_partingOf_5 d hd hK x_F _ _ _ _ _ _ h
/-! ActSurgeryModel.parting(II)I: level X -/
theorem dM_parting_0 : decode cM_parting 0 = .ok (.aload_n 0, 1) := by decide +kernel
theorem dM_parting_1 : decode cM_parting 1 = .ok (.iconst 0, 1) := by decide +kernel
theorem dM_parting_2 : decode cM_parting 2 = .ok (.putfield 66, 3) := by decide +kernel
theorem dM_parting_5 : decode cM_parting 5 = .ok (.aload_n 0, 1) := by decide +kernel
theorem dM_parting_6 : decode cM_parting 6 = .ok (.iload_n 1, 1) := by decide +kernel
theorem dM_parting_7 : decode cM_parting 7 = .ok (.iload_n 2, 1) := by decide +kernel
theorem dM_parting_8 : decode cM_parting 8 = .ok (.iconst 0, 1) := by decide +kernel
theorem dM_parting_9 : decode cM_parting 9 = .ok (.invokevirtual 90, 3) := by decide +kernel
theorem dM_parting_12 : decode cM_parting 12 = .ok (.ifCond .eq 12, 3) := by decide +kernel
theorem dM_parting_15 : decode cM_parting 15 = .ok (.aload_n 0, 1) := by decide +kernel
theorem dM_parting_16 : decode cM_parting 16 = .ok (.iload_n 1, 1) := by decide +kernel
theorem dM_parting_17 : decode cM_parting 17 = .ok (.iload_n 2, 1) := by decide +kernel
theorem dM_parting_18 : decode cM_parting 18 = .ok (.invokevirtual 100, 3) := by decide +kernel
theorem dM_parting_21 : decode cM_parting 21 = .ok (.goto 5, 3) := by decide +kernel
theorem dM_parting_24 : decode cM_parting 24 = .ok (.bipush (-2), 2) := by decide +kernel
theorem dM_parting_26 : decode cM_parting 26 = .ok (.ireturn, 1) := by decide +kernel
theorem tw_3_116 : (Jvm.Cond.instanceMethod ({ cls := "ActSurgeryModel", name := "partingOf", desc := "(II)I" } : Jvm.MethodName)) ∈ x_GT := x_t3 116 rfl rfl
theorem tws_41 : (Jvm.Cond.selects "ActSurgeryModel" ({ cls := "ActSurgeryModel", name := "partingOf", desc := "(II)I" } : Jvm.MethodName) ({ cls := "ActSurgeryModel", name := "partingOf", desc := "(II)I" } : Jvm.MethodName)) ∈ x_GT := x_ts 41 rfl rfl
theorem tw_3_117 : (Jvm.Cond.code ({ cls := "ActSurgeryModel", name := "partingOf", desc := "(II)I" } : Jvm.MethodName) prog_7_method_25_code (5 : Nat) (Option.some Jvm.ClassFile.FieldType.int)) ∈ x_GT := x_t3 117 rfl rfl
theorem tw_3_114 : (Jvm.Cond.methodLink "ActSurgeryModel" (100 : Nat) ({ cls := "ActSurgeryModel", name := "partingOf", desc := "(II)I" } : Jvm.MethodName)) ∈ x_GT := x_t3 114 rfl rfl
theorem kM_100 : x_kV "ActSurgeryModel" 100 yM_partingOf cM_partingOf 5 (some .int) 2 5 := ⟨tw_3_116, tws_41, tw_3_117, tw_1_6, tw_3_114, (by decide +kernel), rfl⟩
def fM_parting  (w : x_W) (v0 : Nat) (v1 : Int32) (v2 : Int32) : Option (Int32 × x_W) :=
  (x_pf w v0 5 4 (.int (0 : Int32))).bind fun w1 =>
  (x_ob w1 v0 5).bind fun _ =>
  (fM_isPair w1 v0 v1 v2 (0 : Int32)).bind fun t3 =>
  if t3 = (0 : Int32) then
    some ((-2 : Int32), w1)
  else
    (fM_partingOf w1 v0 v1 v2).bind fun q5 =>
    some (q5.1, q5.2)
set_option maxHeartbeats 4000000 in
set_option maxRecDepth 100000 in
theorem mM_parting (d : Nat) (hd : 9 ≤ d) {K : Option Value → x_W → Prop} {w : x_W} {v0 : Nat} {v1 : Int32} {v2 : Int32} {r : (Int32 × x_W)} (h : fM_parting w v0 v1 v2 = some r) (hK : K (some (.int r.1)) r.2) : x_M yM_parting cM_parting 3 (some .int) d 0 0 [.ref v0, .int v1, .int v2] w K := by
  refine x_M.of [some (.ref v0), some (.int v1), some (.int v2)] (by decide) rfl (Nat.le_of_ble_eq_true rfl) ?_
  unfold fM_parting at h
  refine g_aload_n 1 (i := 0) dM_parting_0 rfl rfl rfl ?_
  refine g_iconst 2 (0 : Int32) dM_parting_1 rfl (by decide) ?_
  obtain ⟨w1, e1, h⟩ := x_bind h
  refine g_putf 5 5 4 xy5 xy5_ok xn5 dM_parting_2 rfl x_in5 tw_2_239 rfl (by decide) rfl (fun _ _ => ⟨rfl, rfl⟩) e1 ?_
  refine g_aload_n 6 (i := 0) dM_parting_5 rfl rfl rfl ?_
  refine g_iload_n 7 (i := 1) dM_parting_6 rfl rfl rfl ?_
  refine g_iload_n 8 (i := 2) dM_parting_7 rfl rfl rfl ?_
  refine g_iconst 9 (0 : Int32) dM_parting_8 rfl (by decide) ?_
  obtain ⟨_, e2, h⟩ := x_bind h
  obtain ⟨t3, e3, h⟩ := x_bind h
  refine g_cV 12 (some (.int t3)) w1 [.int v1, .int v2, .int (0 : Int32)] [] dM_parting_9 rfl (fun _ hK2 => mM_isPair (d - 1) (by omega) e3 hK2) (x_ob_some e2) kM_90 (x_rm (Nat.le_trans (by decide) hd) (by decide)) ⟨Nat.zero_le _, Nat.zero_le _⟩ (Nat.le_of_ble_eq_true rfl) rfl ?_
  by_cases c4 : t3 = (0 : Int32)
  · rw [if_pos c4] at h
    refine g_if_eq_t 24 dM_parting_12 (by decide) c4 ?_
    refine g_bipush 26 (-2 : Int32) dM_parting_24 rfl (by decide) ?_
    obtain rfl := Option.some.inj h
    exact g_iret rfl dM_parting_26 hK
  · rw [if_neg c4] at h
    refine g_if_eq_f 15 24 dM_parting_12 (by decide) rfl c4 ?_
    refine g_aload_n 16 (i := 0) dM_parting_15 rfl rfl rfl ?_
    refine g_iload_n 17 (i := 1) dM_parting_16 rfl rfl rfl ?_
    refine g_iload_n 18 (i := 2) dM_parting_17 rfl rfl rfl ?_
    obtain ⟨q5, e5, h⟩ := x_bind h
    refine g_cV 21 (some (.int q5.1)) q5.2 [.int v1, .int v2] [] dM_parting_18 rfl (fun _ hK2 => mM_partingOf (d - 1) (by omega) e5 hK2) (x_ob_some e2) kM_100 (x_rm (Nat.le_trans (by decide) hd) (by decide)) ⟨Nat.zero_le _, Nat.zero_le _⟩ (Nat.le_of_ble_eq_true rfl) rfl ?_
    refine g_goto 26 dM_parting_21 (by decide) ?_
    obtain rfl := Option.some.inj h
    exact g_iret rfl dM_parting_26 hK
/-! ActSurgeryModel.isBack(III)Z: level X -/
theorem dM_isBack_0 : decode cM_isBack 0 = .ok (.aload_n 0, 1) := by decide +kernel
theorem dM_isBack_1 : decode cM_isBack 1 = .ok (.iconst 0, 1) := by decide +kernel
theorem dM_isBack_2 : decode cM_isBack 2 = .ok (.putfield 66, 3) := by decide +kernel
theorem dM_isBack_5 : decode cM_isBack 5 = .ok (.iload_n 3, 1) := by decide +kernel
theorem dM_isBack_6 : decode cM_isBack 6 = .ok (.aload_n 0, 1) := by decide +kernel
theorem dM_isBack_7 : decode cM_isBack 7 = .ok (.iload_n 1, 1) := by decide +kernel
theorem dM_isBack_8 : decode cM_isBack 8 = .ok (.invokevirtual 81, 3) := by decide +kernel
theorem dM_isBack_11 : decode cM_isBack 11 = .ok (.iand, 1) := by decide +kernel
theorem dM_isBack_12 : decode cM_isBack 12 = .ok (.ifCond .ne 7, 3) := by decide +kernel
theorem dM_isBack_15 : decode cM_isBack 15 = .ok (.iconst 1, 1) := by decide +kernel
theorem dM_isBack_16 : decode cM_isBack 16 = .ok (.goto 4, 3) := by decide +kernel
theorem dM_isBack_19 : decode cM_isBack 19 = .ok (.iconst 0, 1) := by decide +kernel
theorem dM_isBack_20 : decode cM_isBack 20 = .ok (.istore 4, 2) := by decide +kernel
theorem dM_isBack_22 : decode cM_isBack 22 = .ok (.aload_n 0, 1) := by decide +kernel
theorem dM_isBack_23 : decode cM_isBack 23 = .ok (.iconst 1, 1) := by decide +kernel
theorem dM_isBack_24 : decode cM_isBack 24 = .ok (.iload_n 1, 1) := by decide +kernel
theorem dM_isBack_25 : decode cM_isBack 25 = .ok (.ishl, 1) := by decide +kernel
theorem dM_isBack_26 : decode cM_isBack 26 = .ok (.putfield 66, 3) := by decide +kernel
theorem dM_isBack_29 : decode cM_isBack 29 = .ok (.iload 4, 2) := by decide +kernel
theorem dM_isBack_31 : decode cM_isBack 31 = .ok (.ifCond .eq 17, 3) := by decide +kernel
theorem dM_isBack_34 : decode cM_isBack 34 = .ok (.aload_n 0, 1) := by decide +kernel
theorem dM_isBack_35 : decode cM_isBack 35 = .ok (.iload_n 1, 1) := by decide +kernel
theorem dM_isBack_36 : decode cM_isBack 36 = .ok (.iload_n 2, 1) := by decide +kernel
theorem dM_isBack_37 : decode cM_isBack 37 = .ok (.iload_n 3, 1) := by decide +kernel
theorem dM_isBack_38 : decode cM_isBack 38 = .ok (.invokevirtual 93, 3) := by decide +kernel
theorem dM_isBack_41 : decode cM_isBack 41 = .ok (.ifCond .ne 7, 3) := by decide +kernel
theorem dM_isBack_44 : decode cM_isBack 44 = .ok (.iconst 1, 1) := by decide +kernel
theorem dM_isBack_45 : decode cM_isBack 45 = .ok (.goto 4, 3) := by decide +kernel
theorem dM_isBack_48 : decode cM_isBack 48 = .ok (.iconst 0, 1) := by decide +kernel
theorem dM_isBack_49 : decode cM_isBack 49 = .ok (.istore 4, 2) := by decide +kernel
theorem dM_isBack_51 : decode cM_isBack 51 = .ok (.aload_n 0, 1) := by decide +kernel
theorem dM_isBack_52 : decode cM_isBack 52 = .ok (.iconst 0, 1) := by decide +kernel
theorem dM_isBack_53 : decode cM_isBack 53 = .ok (.putfield 66, 3) := by decide +kernel
theorem dM_isBack_56 : decode cM_isBack 56 = .ok (.iload 4, 2) := by decide +kernel
theorem dM_isBack_58 : decode cM_isBack 58 = .ok (.ireturn, 1) := by decide +kernel
def fM_isBack  (w : x_W) (v0 : Nat) (v1 : Int32) (v2 : Int32) (v3 : Int32) : Option (Int32 × x_W) :=
  (x_pf w v0 5 4 (.int (0 : Int32))).bind fun w1 =>
  (x_ob w1 v0 5).bind fun _ =>
  (fM_after w1 v0 v1).bind fun t3 =>
  if (v3 &&& t3) = (0 : Int32) then
    (x_pf w1 v0 5 4 (.int ((1 : Int32) <<< (v1 &&& 31)))).bind fun w5 =>
    (x_ob w5 v0 5).bind fun _ =>
    (fM_waysOf w5 v0 v1 v2 v3).bind fun q7 =>
    if q7.1 = (0 : Int32) then
      (x_pf q7.2 v0 5 4 (.int (0 : Int32))).bind fun w9 =>
      some ((1 : Int32), w9)
    else
      (x_pf q7.2 v0 5 4 (.int (0 : Int32))).bind fun w10 =>
      some ((0 : Int32), w10)
  else
    (x_pf w1 v0 5 4 (.int ((1 : Int32) <<< (v1 &&& 31)))).bind fun w11 =>
    (x_pf w11 v0 5 4 (.int (0 : Int32))).bind fun w12 =>
    some ((0 : Int32), w12)
set_option maxHeartbeats 4000000 in
set_option maxRecDepth 100000 in
theorem mM_isBack (d : Nat) (hd : 8 ≤ d) {K : Option Value → x_W → Prop} {w : x_W} {v0 : Nat} {v1 : Int32} {v2 : Int32} {v3 : Int32} {r : (Int32 × x_W)} (h : fM_isBack w v0 v1 v2 v3 = some r) (hK : K (some (.int r.1)) r.2) : x_M yM_isBack cM_isBack 5 (some .boolean) d 0 0 [.ref v0, .int v1, .int v2, .int v3] w K := by
  refine x_M.of [some (.ref v0), some (.int v1), some (.int v2), some (.int v3), none] (by decide) rfl (Nat.le_of_ble_eq_true rfl) ?_
  unfold fM_isBack at h
  refine g_aload_n 1 (i := 0) dM_isBack_0 rfl rfl rfl ?_
  refine g_iconst 2 (0 : Int32) dM_isBack_1 rfl (by decide) ?_
  obtain ⟨w1, e1, h⟩ := x_bind h
  refine g_putf 5 5 4 xy5 xy5_ok xn5 dM_isBack_2 rfl x_in5 tw_2_239 rfl (by decide) rfl (fun _ _ => ⟨rfl, rfl⟩) e1 ?_
  refine g_iload_n 6 (i := 3) dM_isBack_5 rfl rfl rfl ?_
  refine g_aload_n 7 (i := 0) dM_isBack_6 rfl rfl rfl ?_
  refine g_iload_n 8 (i := 1) dM_isBack_7 rfl rfl rfl ?_
  obtain ⟨_, e2, h⟩ := x_bind h
  obtain ⟨t3, e3, h⟩ := x_bind h
  refine g_cV 11 (some (.int t3)) w1 [.int v1] [.int v3] dM_isBack_8 rfl (fun _ hK2 => mM_after (d - 1) (by omega) e3 hK2) (x_ob_some e2) kM_81 (x_rm (Nat.le_trans (by decide) hd) (by decide)) ⟨Nat.zero_le _, Nat.zero_le _⟩ (Nat.le_of_ble_eq_true rfl) rfl ?_
  refine g_iand 12 dM_isBack_11 rfl ?_
  by_cases c4 : (v3 &&& t3) = (0 : Int32)
  · rw [if_pos c4] at h
    refine g_if_ne_f 15 19 dM_isBack_12 (by decide) rfl c4 ?_
    refine g_iconst 16 (1 : Int32) dM_isBack_15 rfl (by decide) ?_
    refine g_goto 20 dM_isBack_16 (by decide) ?_
    refine g_istore 22 [some (.ref v0), some (.int v1), some (.int v2), some (.int v3), some (.int (1 : Int32))] dM_isBack_20 rfl rfl (by decide) ?_
    refine g_aload_n 23 (i := 0) dM_isBack_22 rfl rfl rfl ?_
    refine g_iconst 24 (1 : Int32) dM_isBack_23 rfl (by decide) ?_
    refine g_iload_n 25 (i := 1) dM_isBack_24 rfl rfl rfl ?_
    refine g_ishl 26 dM_isBack_25 rfl ?_
    obtain ⟨w5, e5, h⟩ := x_bind h
    refine g_putf 29 5 4 xy5 xy5_ok xn5 dM_isBack_26 rfl x_in5 tw_2_239 rfl (by decide) rfl (fun _ _ => ⟨rfl, rfl⟩) e5 ?_
    refine g_iload 31 dM_isBack_29 rfl rfl ?_
    refine g_if_eq_f 34 48 dM_isBack_31 (by decide) rfl (by decide) ?_
    refine g_aload_n 35 (i := 0) dM_isBack_34 rfl rfl rfl ?_
    refine g_iload_n 36 (i := 1) dM_isBack_35 rfl rfl rfl ?_
    refine g_iload_n 37 (i := 2) dM_isBack_36 rfl rfl rfl ?_
    refine g_iload_n 38 (i := 3) dM_isBack_37 rfl rfl rfl ?_
    obtain ⟨_, e6, h⟩ := x_bind h
    obtain ⟨q7, e7, h⟩ := x_bind h
    refine g_cV 41 (some (.int q7.1)) q7.2 [.int v1, .int v2, .int v3] [] dM_isBack_38 rfl (fun _ hK2 => mM_waysOf (d - 1) (by omega) e7 hK2) (x_ob_some e6) kM_93 (x_rm (Nat.le_trans (by decide) hd) (by decide)) ⟨Nat.zero_le _, Nat.zero_le _⟩ (Nat.le_of_ble_eq_true rfl) rfl ?_
    by_cases c8 : q7.1 = (0 : Int32)
    · rw [if_pos c8] at h
      refine g_if_ne_f 44 48 dM_isBack_41 (by decide) rfl c8 ?_
      refine g_iconst 45 (1 : Int32) dM_isBack_44 rfl (by decide) ?_
      refine g_goto 49 dM_isBack_45 (by decide) ?_
      refine g_istore 51 [some (.ref v0), some (.int v1), some (.int v2), some (.int v3), some (.int (1 : Int32))] dM_isBack_49 rfl rfl (by decide) ?_
      refine g_aload_n 52 (i := 0) dM_isBack_51 rfl rfl rfl ?_
      refine g_iconst 53 (0 : Int32) dM_isBack_52 rfl (by decide) ?_
      obtain ⟨w9, e9, h⟩ := x_bind h
      refine g_putf 56 5 4 xy5 xy5_ok xn5 dM_isBack_53 rfl x_in5 tw_2_239 rfl (by decide) rfl (fun _ _ => ⟨rfl, rfl⟩) e9 ?_
      refine g_iload 58 dM_isBack_56 rfl rfl ?_
      obtain rfl := Option.some.inj h
      exact g_zret rfl (by decide) dM_isBack_58 hK
    · rw [if_neg c8] at h
      refine g_if_ne_t 48 dM_isBack_41 (by decide) c8 ?_
      refine g_iconst 49 (0 : Int32) dM_isBack_48 rfl (by decide) ?_
      refine g_istore 51 [some (.ref v0), some (.int v1), some (.int v2), some (.int v3), some (.int (0 : Int32))] dM_isBack_49 rfl rfl (by decide) ?_
      refine g_aload_n 52 (i := 0) dM_isBack_51 rfl rfl rfl ?_
      refine g_iconst 53 (0 : Int32) dM_isBack_52 rfl (by decide) ?_
      obtain ⟨w10, e10, h⟩ := x_bind h
      refine g_putf 56 5 4 xy5 xy5_ok xn5 dM_isBack_53 rfl x_in5 tw_2_239 rfl (by decide) rfl (fun _ _ => ⟨rfl, rfl⟩) e10 ?_
      refine g_iload 58 dM_isBack_56 rfl rfl ?_
      obtain rfl := Option.some.inj h
      exact g_zret rfl (by decide) dM_isBack_58 hK
  · rw [if_neg c4] at h
    refine g_if_ne_t 19 dM_isBack_12 (by decide) c4 ?_
    refine g_iconst 20 (0 : Int32) dM_isBack_19 rfl (by decide) ?_
    refine g_istore 22 [some (.ref v0), some (.int v1), some (.int v2), some (.int v3), some (.int (0 : Int32))] dM_isBack_20 rfl rfl (by decide) ?_
    refine g_aload_n 23 (i := 0) dM_isBack_22 rfl rfl rfl ?_
    refine g_iconst 24 (1 : Int32) dM_isBack_23 rfl (by decide) ?_
    refine g_iload_n 25 (i := 1) dM_isBack_24 rfl rfl rfl ?_
    refine g_ishl 26 dM_isBack_25 rfl ?_
    obtain ⟨w11, e11, h⟩ := x_bind h
    refine g_putf 29 5 4 xy5 xy5_ok xn5 dM_isBack_26 rfl x_in5 tw_2_239 rfl (by decide) rfl (fun _ _ => ⟨rfl, rfl⟩) e11 ?_
    refine g_iload 31 dM_isBack_29 rfl rfl ?_
    refine g_if_eq_t 48 dM_isBack_31 (by decide) (by decide) ?_
    refine g_iconst 49 (0 : Int32) dM_isBack_48 rfl (by decide) ?_
    refine g_istore 51 [some (.ref v0), some (.int v1), some (.int v2), some (.int v3), some (.int (0 : Int32))] dM_isBack_49 rfl rfl (by decide) ?_
    refine g_aload_n 52 (i := 0) dM_isBack_51 rfl rfl rfl ?_
    refine g_iconst 53 (0 : Int32) dM_isBack_52 rfl (by decide) ?_
    obtain ⟨w12, e12, h⟩ := x_bind h
    refine g_putf 56 5 4 xy5 xy5_ok xn5 dM_isBack_53 rfl x_in5 tw_2_239 rfl (by decide) rfl (fun _ _ => ⟨rfl, rfl⟩) e12 ?_
    refine g_iload 58 dM_isBack_56 rfl rfl ?_
    obtain rfl := Option.some.inj h
    exact g_zret rfl (by decide) dM_isBack_58 hK
/-! ActSurgeryModel.isFront(III)Z: level X -/
theorem dM_isFront_0 : decode cM_isFront 0 = .ok (.iload_n 3, 1) := by decide +kernel
theorem dM_isFront_1 : decode cM_isFront 1 = .ok (.ifCond .ne 5, 3) := by decide +kernel
theorem dM_isFront_4 : decode cM_isFront 4 = .ok (.iconst 0, 1) := by decide +kernel
theorem dM_isFront_5 : decode cM_isFront 5 = .ok (.ireturn, 1) := by decide +kernel
theorem dM_isFront_6 : decode cM_isFront 6 = .ok (.aload_n 0, 1) := by decide +kernel
theorem dM_isFront_7 : decode cM_isFront 7 = .ok (.iconst 0, 1) := by decide +kernel
theorem dM_isFront_8 : decode cM_isFront 8 = .ok (.putfield 66, 3) := by decide +kernel
theorem dM_isFront_11 : decode cM_isFront 11 = .ok (.aload_n 0, 1) := by decide +kernel
theorem dM_isFront_12 : decode cM_isFront 12 = .ok (.iload_n 1, 1) := by decide +kernel
theorem dM_isFront_13 : decode cM_isFront 13 = .ok (.aload_n 0, 1) := by decide +kernel
theorem dM_isFront_14 : decode cM_isFront 14 = .ok (.invokevirtual 52, 3) := by decide +kernel
theorem dM_isFront_17 : decode cM_isFront 17 = .ok (.iload_n 3, 1) := by decide +kernel
theorem dM_isFront_18 : decode cM_isFront 18 = .ok (.iconst (-1), 1) := by decide +kernel
theorem dM_isFront_19 : decode cM_isFront 19 = .ok (.ixor, 1) := by decide +kernel
theorem dM_isFront_20 : decode cM_isFront 20 = .ok (.iand, 1) := by decide +kernel
theorem dM_isFront_21 : decode cM_isFront 21 = .ok (.invokevirtual 77, 3) := by decide +kernel
theorem dM_isFront_24 : decode cM_isFront 24 = .ok (.iload_n 2, 1) := by decide +kernel
theorem dM_isFront_25 : decode cM_isFront 25 = .ok (.invokestatic 62, 3) := by decide +kernel
theorem dM_isFront_28 : decode cM_isFront 28 = .ok (.ifCond .ne 7, 3) := by decide +kernel
theorem dM_isFront_31 : decode cM_isFront 31 = .ok (.iconst 1, 1) := by decide +kernel
theorem dM_isFront_32 : decode cM_isFront 32 = .ok (.goto 4, 3) := by decide +kernel
theorem dM_isFront_35 : decode cM_isFront 35 = .ok (.iconst 0, 1) := by decide +kernel
theorem dM_isFront_36 : decode cM_isFront 36 = .ok (.istore 4, 2) := by decide +kernel
theorem dM_isFront_38 : decode cM_isFront 38 = .ok (.aload_n 0, 1) := by decide +kernel
theorem dM_isFront_39 : decode cM_isFront 39 = .ok (.iconst 1, 1) := by decide +kernel
theorem dM_isFront_40 : decode cM_isFront 40 = .ok (.iload_n 1, 1) := by decide +kernel
theorem dM_isFront_41 : decode cM_isFront 41 = .ok (.ishl, 1) := by decide +kernel
theorem dM_isFront_42 : decode cM_isFront 42 = .ok (.putfield 66, 3) := by decide +kernel
theorem dM_isFront_45 : decode cM_isFront 45 = .ok (.iconst 0, 1) := by decide +kernel
theorem dM_isFront_46 : decode cM_isFront 46 = .ok (.istore 5, 2) := by decide +kernel
theorem dM_isFront_48 : decode cM_isFront 48 = .ok (.iload 5, 2) := by decide +kernel
theorem dM_isFront_50 : decode cM_isFront 50 = .ok (.aload_n 0, 1) := by decide +kernel
theorem dM_isFront_51 : decode cM_isFront 51 = .ok (.invokevirtual 44, 3) := by decide +kernel
theorem dM_isFront_54 : decode cM_isFront 54 = .ok (.if_icmp .ge 41, 3) := by decide +kernel
theorem dM_isFront_57 : decode cM_isFront 57 = .ok (.iload 4, 2) := by decide +kernel
theorem dM_isFront_59 : decode cM_isFront 59 = .ok (.ifCond .eq 27, 3) := by decide +kernel
theorem dM_isFront_62 : decode cM_isFront 62 = .ok (.iload_n 3, 1) := by decide +kernel
theorem dM_isFront_63 : decode cM_isFront 63 = .ok (.iload 5, 2) := by decide +kernel
theorem dM_isFront_65 : decode cM_isFront 65 = .ok (.invokestatic 62, 3) := by decide +kernel
theorem dM_isFront_68 : decode cM_isFront 68 = .ok (.ifCond .eq 14, 3) := by decide +kernel
theorem dM_isFront_71 : decode cM_isFront 71 = .ok (.aload_n 0, 1) := by decide +kernel
theorem dM_isFront_72 : decode cM_isFront 72 = .ok (.iload 5, 2) := by decide +kernel
theorem dM_isFront_74 : decode cM_isFront 74 = .ok (.iload_n 1, 1) := by decide +kernel
theorem dM_isFront_75 : decode cM_isFront 75 = .ok (.iconst 0, 1) := by decide +kernel
theorem dM_isFront_76 : decode cM_isFront 76 = .ok (.invokevirtual 93, 3) := by decide +kernel
theorem dM_isFront_79 : decode cM_isFront 79 = .ok (.ifCond .ne 7, 3) := by decide +kernel
theorem dM_isFront_82 : decode cM_isFront 82 = .ok (.iconst 1, 1) := by decide +kernel
theorem dM_isFront_83 : decode cM_isFront 83 = .ok (.goto 4, 3) := by decide +kernel
theorem dM_isFront_86 : decode cM_isFront 86 = .ok (.iconst 0, 1) := by decide +kernel
theorem dM_isFront_87 : decode cM_isFront 87 = .ok (.istore 4, 2) := by decide +kernel
theorem dM_isFront_89 : decode cM_isFront 89 = .ok (.iinc 5 1, 3) := by decide +kernel
theorem dM_isFront_92 : decode cM_isFront 92 = .ok (.goto (-44), 3) := by decide +kernel
theorem dM_isFront_95 : decode cM_isFront 95 = .ok (.aload_n 0, 1) := by decide +kernel
theorem dM_isFront_96 : decode cM_isFront 96 = .ok (.iload_n 3, 1) := by decide +kernel
theorem dM_isFront_97 : decode cM_isFront 97 = .ok (.putfield 66, 3) := by decide +kernel
theorem dM_isFront_100 : decode cM_isFront 100 = .ok (.iconst 0, 1) := by decide +kernel
theorem dM_isFront_101 : decode cM_isFront 101 = .ok (.istore 5, 2) := by decide +kernel
theorem dM_isFront_103 : decode cM_isFront 103 = .ok (.iload 5, 2) := by decide +kernel
theorem dM_isFront_105 : decode cM_isFront 105 = .ok (.aload_n 0, 1) := by decide +kernel
theorem dM_isFront_106 : decode cM_isFront 106 = .ok (.invokevirtual 44, 3) := by decide +kernel
theorem dM_isFront_109 : decode cM_isFront 109 = .ok (.if_icmp .ge 43, 3) := by decide +kernel
theorem dM_isFront_112 : decode cM_isFront 112 = .ok (.iload 4, 2) := by decide +kernel
theorem dM_isFront_114 : decode cM_isFront 114 = .ok (.ifCond .eq 29, 3) := by decide +kernel
theorem dM_isFront_117 : decode cM_isFront 117 = .ok (.iload_n 3, 1) := by decide +kernel
theorem dM_isFront_118 : decode cM_isFront 118 = .ok (.iload 5, 2) := by decide +kernel
theorem dM_isFront_120 : decode cM_isFront 120 = .ok (.invokestatic 62, 3) := by decide +kernel
theorem dM_isFront_123 : decode cM_isFront 123 = .ok (.ifCond .eq 16, 3) := by decide +kernel
theorem dM_isFront_126 : decode cM_isFront 126 = .ok (.aload_n 0, 1) := by decide +kernel
theorem dM_isFront_127 : decode cM_isFront 127 = .ok (.iload 5, 2) := by decide +kernel
theorem dM_isFront_129 : decode cM_isFront 129 = .ok (.iload_n 2, 1) := by decide +kernel
theorem dM_isFront_130 : decode cM_isFront 130 = .ok (.iconst 1, 1) := by decide +kernel
theorem dM_isFront_131 : decode cM_isFront 131 = .ok (.iload_n 1, 1) := by decide +kernel
theorem dM_isFront_132 : decode cM_isFront 132 = .ok (.ishl, 1) := by decide +kernel
theorem dM_isFront_133 : decode cM_isFront 133 = .ok (.invokevirtual 93, 3) := by decide +kernel
theorem dM_isFront_136 : decode cM_isFront 136 = .ok (.ifCond .ne 7, 3) := by decide +kernel
theorem dM_isFront_139 : decode cM_isFront 139 = .ok (.iconst 1, 1) := by decide +kernel
theorem dM_isFront_140 : decode cM_isFront 140 = .ok (.goto 4, 3) := by decide +kernel
theorem dM_isFront_143 : decode cM_isFront 143 = .ok (.iconst 0, 1) := by decide +kernel
theorem dM_isFront_144 : decode cM_isFront 144 = .ok (.istore 4, 2) := by decide +kernel
theorem dM_isFront_146 : decode cM_isFront 146 = .ok (.iinc 5 1, 3) := by decide +kernel
theorem dM_isFront_149 : decode cM_isFront 149 = .ok (.goto (-46), 3) := by decide +kernel
theorem dM_isFront_152 : decode cM_isFront 152 = .ok (.aload_n 0, 1) := by decide +kernel
theorem dM_isFront_153 : decode cM_isFront 153 = .ok (.iconst 0, 1) := by decide +kernel
theorem dM_isFront_154 : decode cM_isFront 154 = .ok (.putfield 66, 3) := by decide +kernel
theorem dM_isFront_157 : decode cM_isFront 157 = .ok (.iload 4, 2) := by decide +kernel
theorem dM_isFront_159 : decode cM_isFront 159 = .ok (.ireturn, 1) := by decide +kernel
def fM_isFront_103  : Nat → x_W → Nat → Int32 → Int32 → Int32 → Int32 → Int32 → Option (Int32 × x_W)
  | 0, _, _, _, _, _, _, _ => none
  | n + 1, w, v0, v1, v2, v3, v4, v5 =>
    (x_ob w v0 5).bind fun _ =>
    (fM_n w v0).bind fun t2 =>
    if t2 ≤ v5 then
      (x_pf w v0 5 4 (.int (0 : Int32))).bind fun w4 =>
      if v4 = 0 ∨ v4 = 1 then some (v4, w4) else none
    else
      if v4 = (0 : Int32) then
        fM_isFront_103 n w v0 v1 v2 v3 (0 : Int32) (v5 + (1 : Int32))
      else
        if (fM_has v3 v5) = (0 : Int32) then
          fM_isFront_103 n w v0 v1 v2 v3 (1 : Int32) (v5 + (1 : Int32))
        else
          (fM_waysOf w v0 v5 v2 ((1 : Int32) <<< (v1 &&& 31))).bind fun q8 =>
          if q8.1 = (0 : Int32) then
            fM_isFront_103 n q8.2 v0 v1 v2 v3 (1 : Int32) (v5 + (1 : Int32))
          else
            fM_isFront_103 n q8.2 v0 v1 v2 v3 (0 : Int32) (v5 + (1 : Int32))
def fM_isFront_48  : Nat → x_W → Nat → Int32 → Int32 → Int32 → Int32 → Int32 → Option (Int32 × x_W)
  | 0, _, _, _, _, _, _, _ => none
  | n + 1, w, v0, v1, v2, v3, v4, v5 =>
    (x_ob w v0 5).bind fun _ =>
    (fM_n w v0).bind fun t2 =>
    if t2 ≤ v5 then
      (x_pf w v0 5 4 (.int v3)).bind fun w4 =>
      fM_isFront_103 x_F w4 v0 v1 v2 v3 v4 (0 : Int32)
    else
      if v4 = (0 : Int32) then
        fM_isFront_48 n w v0 v1 v2 v3 (0 : Int32) (v5 + (1 : Int32))
      else
        if (fM_has v3 v5) = (0 : Int32) then
          fM_isFront_48 n w v0 v1 v2 v3 (1 : Int32) (v5 + (1 : Int32))
        else
          (fM_waysOf w v0 v5 v1 (0 : Int32)).bind fun q7 =>
          if q7.1 = (0 : Int32) then
            fM_isFront_48 n q7.2 v0 v1 v2 v3 (1 : Int32) (v5 + (1 : Int32))
          else
            fM_isFront_48 n q7.2 v0 v1 v2 v3 (0 : Int32) (v5 + (1 : Int32))
def fM_isFront  (w : x_W) (v0 : Nat) (v1 : Int32) (v2 : Int32) (v3 : Int32) : Option (Int32 × x_W) :=
  if v3 = (0 : Int32) then
    some ((0 : Int32), w)
  else
    (x_pf w v0 5 4 (.int (0 : Int32))).bind fun w2 =>
    (x_ob w2 v0 5).bind fun _ =>
    (fM_all w2 v0).bind fun t4 =>
    (fM_reach w2 v0 v1 (t4 &&& (v3 ^^^ (-1 : Int32)))).bind fun t5 =>
    if (fM_has t5 v2) = (0 : Int32) then
      (x_pf w2 v0 5 4 (.int ((1 : Int32) <<< (v1 &&& 31)))).bind fun w7 =>
      fM_isFront_48 x_F w7 v0 v1 v2 v3 (1 : Int32) (0 : Int32)
    else
      (x_pf w2 v0 5 4 (.int ((1 : Int32) <<< (v1 &&& 31)))).bind fun w8 =>
      fM_isFront_48 x_F w8 v0 v1 v2 v3 (0 : Int32) (0 : Int32)
set_option maxHeartbeats 4000000 in
set_option maxRecDepth 100000 in
theorem lM_isFront_103 (d : Nat) (hd : 8 ≤ d) {K : Option Value → x_W → Prop} {r : (Int32 × x_W)} (hK : K (some (.int r.1)) r.2) : ∀ (n : Nat) (w : x_W) (v0 : Nat) (v1 : Int32) (v2 : Int32) (v3 : Int32) (v4 : Int32) (v5 : Int32), fM_isFront_103 n w v0 v1 v2 v3 v4 v5 = some r → x_G none yM_isFront cM_isFront 6 (some .boolean) (x_room d 0 0) (x_QM K 0 0) 103 [some (.ref v0), some (.int v1), some (.int v2), some (.int v3), some (.int v4), some (.int v5)] [] w 0 0 := by
  intro n
  induction n with
  | zero => intro w v0 v1 v2 v3 v4 v5 h; rw [fM_isFront_103] at h; cases h
  | succ n ih =>
    intro w v0 v1 v2 v3 v4 v5 h
    rw [fM_isFront_103] at h
    refine g_iload 105 dM_isFront_103 rfl rfl ?_
    refine g_aload_n 106 (i := 0) dM_isFront_105 rfl rfl rfl ?_
    obtain ⟨_, e1, h⟩ := x_bind h
    obtain ⟨t2, e2, h⟩ := x_bind h
    refine g_cV 109 (some (.int t2)) w [] [.int v5] dM_isFront_106 rfl (fun _ hK2 => mM_n (d - 1) (by omega) e2 hK2) (x_ob_some e1) kM_44 (x_rm (Nat.le_trans (by decide) hd) (by decide)) ⟨Nat.zero_le _, Nat.zero_le _⟩ (Nat.le_of_ble_eq_true rfl) rfl ?_
    by_cases c3 : t2 ≤ v5
    · rw [if_pos c3] at h
      refine g_icmp_ge_t 152 dM_isFront_109 (by decide) c3 ?_
      refine g_aload_n 153 (i := 0) dM_isFront_152 rfl rfl rfl ?_
      refine g_iconst 154 (0 : Int32) dM_isFront_153 rfl (by decide) ?_
      obtain ⟨w4, e4, h⟩ := x_bind h
      refine g_putf 157 5 4 xy5 xy5_ok xn5 dM_isFront_154 rfl x_in5 tw_2_239 rfl (by decide) rfl (fun _ _ => ⟨rfl, rfl⟩) e4 ?_
      refine g_iload 159 dM_isFront_157 rfl rfl ?_
      have c5 : v4 = 0 ∨ v4 = 1 := by
        by_cases c : v4 = 0 ∨ v4 = 1
        · exact c
        · rw [if_neg c] at h; cases h
      rw [if_pos c5] at h
      obtain rfl := Option.some.inj h
      exact g_zret rfl c5 dM_isFront_159 hK
    · rw [if_neg c3] at h
      refine g_icmp_ge_f 112 152 dM_isFront_109 (by decide) rfl c3 ?_
      refine g_iload 114 dM_isFront_112 rfl rfl ?_
      by_cases c6 : v4 = (0 : Int32)
      · rw [if_pos c6] at h
        refine g_if_eq_t 143 dM_isFront_114 (by decide) c6 ?_
        refine g_iconst 144 (0 : Int32) dM_isFront_143 rfl (by decide) ?_
        refine g_istore 146 [some (.ref v0), some (.int v1), some (.int v2), some (.int v3), some (.int (0 : Int32)), some (.int v5)] dM_isFront_144 rfl rfl (by decide) ?_
        refine g_iinc 149 [some (.ref v0), some (.int v1), some (.int v2), some (.int v3), some (.int (0 : Int32)), some (.int (v5 + (1 : Int32)))] dM_isFront_146 rfl rfl (x_inc (1 : Int32) (by decide)) rfl (by decide) ?_
        refine g_goto 103 dM_isFront_149 (by decide) ?_
        exact ih _ _ _ _ _ _ _ h
      · rw [if_neg c6] at h
        refine g_if_eq_f 117 143 dM_isFront_114 (by decide) rfl c6 ?_
        refine g_iload_n 118 (i := 3) dM_isFront_117 rfl rfl rfl ?_
        refine g_iload 120 dM_isFront_118 rfl rfl ?_
        refine g_cS 123 (some (.int (fM_has v3 v5))) w [.int v3, .int v5] [] dM_isFront_120 rfl (fun _ hK2 => mM_has (d - 1) (by omega) rfl hK2) kM_62 (x_rm (Nat.le_trans (by decide) hd) (by decide)) ⟨Nat.zero_le _, Nat.zero_le _⟩ (Nat.le_of_ble_eq_true rfl) rfl ?_
        by_cases c7 : (fM_has v3 v5) = (0 : Int32)
        · rw [if_pos c7] at h
          refine g_if_eq_t 139 dM_isFront_123 (by decide) c7 ?_
          refine g_iconst 140 (1 : Int32) dM_isFront_139 rfl (by decide) ?_
          refine g_goto 144 dM_isFront_140 (by decide) ?_
          refine g_istore 146 [some (.ref v0), some (.int v1), some (.int v2), some (.int v3), some (.int (1 : Int32)), some (.int v5)] dM_isFront_144 rfl rfl (by decide) ?_
          refine g_iinc 149 [some (.ref v0), some (.int v1), some (.int v2), some (.int v3), some (.int (1 : Int32)), some (.int (v5 + (1 : Int32)))] dM_isFront_146 rfl rfl (x_inc (1 : Int32) (by decide)) rfl (by decide) ?_
          refine g_goto 103 dM_isFront_149 (by decide) ?_
          exact ih _ _ _ _ _ _ _ h
        · rw [if_neg c7] at h
          refine g_if_eq_f 126 139 dM_isFront_123 (by decide) rfl c7 ?_
          refine g_aload_n 127 (i := 0) dM_isFront_126 rfl rfl rfl ?_
          refine g_iload 129 dM_isFront_127 rfl rfl ?_
          refine g_iload_n 130 (i := 2) dM_isFront_129 rfl rfl rfl ?_
          refine g_iconst 131 (1 : Int32) dM_isFront_130 rfl (by decide) ?_
          refine g_iload_n 132 (i := 1) dM_isFront_131 rfl rfl rfl ?_
          refine g_ishl 133 dM_isFront_132 rfl ?_
          obtain ⟨q8, e8, h⟩ := x_bind h
          refine g_cV 136 (some (.int q8.1)) q8.2 [.int v5, .int v2, .int ((1 : Int32) <<< (v1 &&& 31))] [] dM_isFront_133 rfl (fun _ hK2 => mM_waysOf (d - 1) (by omega) e8 hK2) (x_ob_some e1) kM_93 (x_rm (Nat.le_trans (by decide) hd) (by decide)) ⟨Nat.zero_le _, Nat.zero_le _⟩ (Nat.le_of_ble_eq_true rfl) rfl ?_
          by_cases c9 : q8.1 = (0 : Int32)
          · rw [if_pos c9] at h
            refine g_if_ne_f 139 143 dM_isFront_136 (by decide) rfl c9 ?_
            refine g_iconst 140 (1 : Int32) dM_isFront_139 rfl (by decide) ?_
            refine g_goto 144 dM_isFront_140 (by decide) ?_
            refine g_istore 146 [some (.ref v0), some (.int v1), some (.int v2), some (.int v3), some (.int (1 : Int32)), some (.int v5)] dM_isFront_144 rfl rfl (by decide) ?_
            refine g_iinc 149 [some (.ref v0), some (.int v1), some (.int v2), some (.int v3), some (.int (1 : Int32)), some (.int (v5 + (1 : Int32)))] dM_isFront_146 rfl rfl (x_inc (1 : Int32) (by decide)) rfl (by decide) ?_
            refine g_goto 103 dM_isFront_149 (by decide) ?_
            exact ih _ _ _ _ _ _ _ h
          · rw [if_neg c9] at h
            refine g_if_ne_t 143 dM_isFront_136 (by decide) c9 ?_
            refine g_iconst 144 (0 : Int32) dM_isFront_143 rfl (by decide) ?_
            refine g_istore 146 [some (.ref v0), some (.int v1), some (.int v2), some (.int v3), some (.int (0 : Int32)), some (.int v5)] dM_isFront_144 rfl rfl (by decide) ?_
            refine g_iinc 149 [some (.ref v0), some (.int v1), some (.int v2), some (.int v3), some (.int (0 : Int32)), some (.int (v5 + (1 : Int32)))] dM_isFront_146 rfl rfl (x_inc (1 : Int32) (by decide)) rfl (by decide) ?_
            refine g_goto 103 dM_isFront_149 (by decide) ?_
            exact ih _ _ _ _ _ _ _ h
set_option maxHeartbeats 4000000 in
set_option maxRecDepth 100000 in
theorem lM_isFront_48 (d : Nat) (hd : 8 ≤ d) {K : Option Value → x_W → Prop} {r : (Int32 × x_W)} (hK : K (some (.int r.1)) r.2) : ∀ (n : Nat) (w : x_W) (v0 : Nat) (v1 : Int32) (v2 : Int32) (v3 : Int32) (v4 : Int32) (v5 : Int32), fM_isFront_48 n w v0 v1 v2 v3 v4 v5 = some r → x_G none yM_isFront cM_isFront 6 (some .boolean) (x_room d 0 0) (x_QM K 0 0) 48 [some (.ref v0), some (.int v1), some (.int v2), some (.int v3), some (.int v4), some (.int v5)] [] w 0 0 := by
  intro n
  induction n with
  | zero => intro w v0 v1 v2 v3 v4 v5 h; rw [fM_isFront_48] at h; cases h
  | succ n ih =>
    intro w v0 v1 v2 v3 v4 v5 h
    rw [fM_isFront_48] at h
    refine g_iload 50 dM_isFront_48 rfl rfl ?_
    refine g_aload_n 51 (i := 0) dM_isFront_50 rfl rfl rfl ?_
    obtain ⟨_, e1, h⟩ := x_bind h
    obtain ⟨t2, e2, h⟩ := x_bind h
    refine g_cV 54 (some (.int t2)) w [] [.int v5] dM_isFront_51 rfl (fun _ hK2 => mM_n (d - 1) (by omega) e2 hK2) (x_ob_some e1) kM_44 (x_rm (Nat.le_trans (by decide) hd) (by decide)) ⟨Nat.zero_le _, Nat.zero_le _⟩ (Nat.le_of_ble_eq_true rfl) rfl ?_
    by_cases c3 : t2 ≤ v5
    · rw [if_pos c3] at h
      refine g_icmp_ge_t 95 dM_isFront_54 (by decide) c3 ?_
      refine g_aload_n 96 (i := 0) dM_isFront_95 rfl rfl rfl ?_
      refine g_iload_n 97 (i := 3) dM_isFront_96 rfl rfl rfl ?_
      obtain ⟨w4, e4, h⟩ := x_bind h
      refine g_putf 100 5 4 xy5 xy5_ok xn5 dM_isFront_97 rfl x_in5 tw_2_239 rfl (by decide) rfl (fun _ _ => ⟨rfl, rfl⟩) e4 ?_
      refine g_iconst 101 (0 : Int32) dM_isFront_100 rfl (by decide) ?_
      refine g_istore 103 [some (.ref v0), some (.int v1), some (.int v2), some (.int v3), some (.int v4), some (.int (0 : Int32))] dM_isFront_101 rfl rfl (by decide) ?_
      exact lM_isFront_103 d hd hK x_F _ _ _ _ _ _ _ h
    · rw [if_neg c3] at h
      refine g_icmp_ge_f 57 95 dM_isFront_54 (by decide) rfl c3 ?_
      refine g_iload 59 dM_isFront_57 rfl rfl ?_
      by_cases c5 : v4 = (0 : Int32)
      · rw [if_pos c5] at h
        refine g_if_eq_t 86 dM_isFront_59 (by decide) c5 ?_
        refine g_iconst 87 (0 : Int32) dM_isFront_86 rfl (by decide) ?_
        refine g_istore 89 [some (.ref v0), some (.int v1), some (.int v2), some (.int v3), some (.int (0 : Int32)), some (.int v5)] dM_isFront_87 rfl rfl (by decide) ?_
        refine g_iinc 92 [some (.ref v0), some (.int v1), some (.int v2), some (.int v3), some (.int (0 : Int32)), some (.int (v5 + (1 : Int32)))] dM_isFront_89 rfl rfl (x_inc (1 : Int32) (by decide)) rfl (by decide) ?_
        refine g_goto 48 dM_isFront_92 (by decide) ?_
        exact ih _ _ _ _ _ _ _ h
      · rw [if_neg c5] at h
        refine g_if_eq_f 62 86 dM_isFront_59 (by decide) rfl c5 ?_
        refine g_iload_n 63 (i := 3) dM_isFront_62 rfl rfl rfl ?_
        refine g_iload 65 dM_isFront_63 rfl rfl ?_
        refine g_cS 68 (some (.int (fM_has v3 v5))) w [.int v3, .int v5] [] dM_isFront_65 rfl (fun _ hK2 => mM_has (d - 1) (by omega) rfl hK2) kM_62 (x_rm (Nat.le_trans (by decide) hd) (by decide)) ⟨Nat.zero_le _, Nat.zero_le _⟩ (Nat.le_of_ble_eq_true rfl) rfl ?_
        by_cases c6 : (fM_has v3 v5) = (0 : Int32)
        · rw [if_pos c6] at h
          refine g_if_eq_t 82 dM_isFront_68 (by decide) c6 ?_
          refine g_iconst 83 (1 : Int32) dM_isFront_82 rfl (by decide) ?_
          refine g_goto 87 dM_isFront_83 (by decide) ?_
          refine g_istore 89 [some (.ref v0), some (.int v1), some (.int v2), some (.int v3), some (.int (1 : Int32)), some (.int v5)] dM_isFront_87 rfl rfl (by decide) ?_
          refine g_iinc 92 [some (.ref v0), some (.int v1), some (.int v2), some (.int v3), some (.int (1 : Int32)), some (.int (v5 + (1 : Int32)))] dM_isFront_89 rfl rfl (x_inc (1 : Int32) (by decide)) rfl (by decide) ?_
          refine g_goto 48 dM_isFront_92 (by decide) ?_
          exact ih _ _ _ _ _ _ _ h
        · rw [if_neg c6] at h
          refine g_if_eq_f 71 82 dM_isFront_68 (by decide) rfl c6 ?_
          refine g_aload_n 72 (i := 0) dM_isFront_71 rfl rfl rfl ?_
          refine g_iload 74 dM_isFront_72 rfl rfl ?_
          refine g_iload_n 75 (i := 1) dM_isFront_74 rfl rfl rfl ?_
          refine g_iconst 76 (0 : Int32) dM_isFront_75 rfl (by decide) ?_
          obtain ⟨q7, e7, h⟩ := x_bind h
          refine g_cV 79 (some (.int q7.1)) q7.2 [.int v5, .int v1, .int (0 : Int32)] [] dM_isFront_76 rfl (fun _ hK2 => mM_waysOf (d - 1) (by omega) e7 hK2) (x_ob_some e1) kM_93 (x_rm (Nat.le_trans (by decide) hd) (by decide)) ⟨Nat.zero_le _, Nat.zero_le _⟩ (Nat.le_of_ble_eq_true rfl) rfl ?_
          by_cases c8 : q7.1 = (0 : Int32)
          · rw [if_pos c8] at h
            refine g_if_ne_f 82 86 dM_isFront_79 (by decide) rfl c8 ?_
            refine g_iconst 83 (1 : Int32) dM_isFront_82 rfl (by decide) ?_
            refine g_goto 87 dM_isFront_83 (by decide) ?_
            refine g_istore 89 [some (.ref v0), some (.int v1), some (.int v2), some (.int v3), some (.int (1 : Int32)), some (.int v5)] dM_isFront_87 rfl rfl (by decide) ?_
            refine g_iinc 92 [some (.ref v0), some (.int v1), some (.int v2), some (.int v3), some (.int (1 : Int32)), some (.int (v5 + (1 : Int32)))] dM_isFront_89 rfl rfl (x_inc (1 : Int32) (by decide)) rfl (by decide) ?_
            refine g_goto 48 dM_isFront_92 (by decide) ?_
            exact ih _ _ _ _ _ _ _ h
          · rw [if_neg c8] at h
            refine g_if_ne_t 86 dM_isFront_79 (by decide) c8 ?_
            refine g_iconst 87 (0 : Int32) dM_isFront_86 rfl (by decide) ?_
            refine g_istore 89 [some (.ref v0), some (.int v1), some (.int v2), some (.int v3), some (.int (0 : Int32)), some (.int v5)] dM_isFront_87 rfl rfl (by decide) ?_
            refine g_iinc 92 [some (.ref v0), some (.int v1), some (.int v2), some (.int v3), some (.int (0 : Int32)), some (.int (v5 + (1 : Int32)))] dM_isFront_89 rfl rfl (x_inc (1 : Int32) (by decide)) rfl (by decide) ?_
            refine g_goto 48 dM_isFront_92 (by decide) ?_
            exact ih _ _ _ _ _ _ _ h
set_option maxHeartbeats 4000000 in
set_option maxRecDepth 100000 in
theorem mM_isFront (d : Nat) (hd : 8 ≤ d) {K : Option Value → x_W → Prop} {w : x_W} {v0 : Nat} {v1 : Int32} {v2 : Int32} {v3 : Int32} {r : (Int32 × x_W)} (h : fM_isFront w v0 v1 v2 v3 = some r) (hK : K (some (.int r.1)) r.2) : x_M yM_isFront cM_isFront 6 (some .boolean) d 0 0 [.ref v0, .int v1, .int v2, .int v3] w K := by
  refine x_M.of [some (.ref v0), some (.int v1), some (.int v2), some (.int v3), none, none] (by decide) rfl (Nat.le_of_ble_eq_true rfl) ?_
  unfold fM_isFront at h
  refine g_iload_n 1 (i := 3) dM_isFront_0 rfl rfl rfl ?_
  by_cases c1 : v3 = (0 : Int32)
  · rw [if_pos c1] at h
    refine g_if_ne_f 4 6 dM_isFront_1 (by decide) rfl c1 ?_
    refine g_iconst 5 (0 : Int32) dM_isFront_4 rfl (by decide) ?_
    obtain rfl := Option.some.inj h
    exact g_zret rfl (by decide) dM_isFront_5 hK
  · rw [if_neg c1] at h
    refine g_if_ne_t 6 dM_isFront_1 (by decide) c1 ?_
    refine g_aload_n 7 (i := 0) dM_isFront_6 rfl rfl rfl ?_
    refine g_iconst 8 (0 : Int32) dM_isFront_7 rfl (by decide) ?_
    obtain ⟨w2, e2, h⟩ := x_bind h
    refine g_putf 11 5 4 xy5 xy5_ok xn5 dM_isFront_8 rfl x_in5 tw_2_239 rfl (by decide) rfl (fun _ _ => ⟨rfl, rfl⟩) e2 ?_
    refine g_aload_n 12 (i := 0) dM_isFront_11 rfl rfl rfl ?_
    refine g_iload_n 13 (i := 1) dM_isFront_12 rfl rfl rfl ?_
    refine g_aload_n 14 (i := 0) dM_isFront_13 rfl rfl rfl ?_
    obtain ⟨_, e3, h⟩ := x_bind h
    obtain ⟨t4, e4, h⟩ := x_bind h
    refine g_cV 17 (some (.int t4)) w2 [] [.int v1, .ref v0] dM_isFront_14 rfl (fun _ hK2 => mM_all (d - 1) (by omega) e4 hK2) (x_ob_some e3) kM_52 (x_rm (Nat.le_trans (by decide) hd) (by decide)) ⟨Nat.zero_le _, Nat.zero_le _⟩ (Nat.le_of_ble_eq_true rfl) rfl ?_
    refine g_iload_n 18 (i := 3) dM_isFront_17 rfl rfl rfl ?_
    refine g_iconst 19 (-1 : Int32) dM_isFront_18 rfl (by decide) ?_
    refine g_ixor 20 dM_isFront_19 rfl ?_
    refine g_iand 21 dM_isFront_20 rfl ?_
    obtain ⟨t5, e5, h⟩ := x_bind h
    refine g_cV 24 (some (.int t5)) w2 [.int v1, .int (t4 &&& (v3 ^^^ (-1 : Int32)))] [] dM_isFront_21 rfl (fun _ hK2 => mM_reach (d - 1) (by omega) e5 hK2) (x_ob_some e3) kM_77 (x_rm (Nat.le_trans (by decide) hd) (by decide)) ⟨Nat.zero_le _, Nat.zero_le _⟩ (Nat.le_of_ble_eq_true rfl) rfl ?_
    refine g_iload_n 25 (i := 2) dM_isFront_24 rfl rfl rfl ?_
    refine g_cS 28 (some (.int (fM_has t5 v2))) w2 [.int t5, .int v2] [] dM_isFront_25 rfl (fun _ hK2 => mM_has (d - 1) (by omega) rfl hK2) kM_62 (x_rm (Nat.le_trans (by decide) hd) (by decide)) ⟨Nat.zero_le _, Nat.zero_le _⟩ (Nat.le_of_ble_eq_true rfl) rfl ?_
    by_cases c6 : (fM_has t5 v2) = (0 : Int32)
    · rw [if_pos c6] at h
      refine g_if_ne_f 31 35 dM_isFront_28 (by decide) rfl c6 ?_
      refine g_iconst 32 (1 : Int32) dM_isFront_31 rfl (by decide) ?_
      refine g_goto 36 dM_isFront_32 (by decide) ?_
      refine g_istore 38 [some (.ref v0), some (.int v1), some (.int v2), some (.int v3), some (.int (1 : Int32)), none] dM_isFront_36 rfl rfl (by decide) ?_
      refine g_aload_n 39 (i := 0) dM_isFront_38 rfl rfl rfl ?_
      refine g_iconst 40 (1 : Int32) dM_isFront_39 rfl (by decide) ?_
      refine g_iload_n 41 (i := 1) dM_isFront_40 rfl rfl rfl ?_
      refine g_ishl 42 dM_isFront_41 rfl ?_
      obtain ⟨w7, e7, h⟩ := x_bind h
      refine g_putf 45 5 4 xy5 xy5_ok xn5 dM_isFront_42 rfl x_in5 tw_2_239 rfl (by decide) rfl (fun _ _ => ⟨rfl, rfl⟩) e7 ?_
      refine g_iconst 46 (0 : Int32) dM_isFront_45 rfl (by decide) ?_
      refine g_istore 48 [some (.ref v0), some (.int v1), some (.int v2), some (.int v3), some (.int (1 : Int32)), some (.int (0 : Int32))] dM_isFront_46 rfl rfl (by decide) ?_
      exact lM_isFront_48 d hd hK x_F _ _ _ _ _ _ _ h
    · rw [if_neg c6] at h
      refine g_if_ne_t 35 dM_isFront_28 (by decide) c6 ?_
      refine g_iconst 36 (0 : Int32) dM_isFront_35 rfl (by decide) ?_
      refine g_istore 38 [some (.ref v0), some (.int v1), some (.int v2), some (.int v3), some (.int (0 : Int32)), none] dM_isFront_36 rfl rfl (by decide) ?_
      refine g_aload_n 39 (i := 0) dM_isFront_38 rfl rfl rfl ?_
      refine g_iconst 40 (1 : Int32) dM_isFront_39 rfl (by decide) ?_
      refine g_iload_n 41 (i := 1) dM_isFront_40 rfl rfl rfl ?_
      refine g_ishl 42 dM_isFront_41 rfl ?_
      obtain ⟨w8, e8, h⟩ := x_bind h
      refine g_putf 45 5 4 xy5 xy5_ok xn5 dM_isFront_42 rfl x_in5 tw_2_239 rfl (by decide) rfl (fun _ _ => ⟨rfl, rfl⟩) e8 ?_
      refine g_iconst 46 (0 : Int32) dM_isFront_45 rfl (by decide) ?_
      refine g_istore 48 [some (.ref v0), some (.int v1), some (.int v2), some (.int v3), some (.int (0 : Int32)), some (.int (0 : Int32))] dM_isFront_46 rfl rfl (by decide) ?_
      exact lM_isFront_48 d hd hK x_F _ _ _ _ _ _ _ h
/-! ActSurgeryModel.isInstrument(III)Z: level X -/
theorem dM_isInstrument_0 : decode cM_isInstrument 0 = .ok (.aload_n 0, 1) := by decide +kernel
theorem dM_isInstrument_1 : decode cM_isInstrument 1 = .ok (.iconst 0, 1) := by decide +kernel
theorem dM_isInstrument_2 : decode cM_isInstrument 2 = .ok (.putfield 66, 3) := by decide +kernel
theorem dM_isInstrument_5 : decode cM_isInstrument 5 = .ok (.aload_n 0, 1) := by decide +kernel
theorem dM_isInstrument_6 : decode cM_isInstrument 6 = .ok (.iload_n 3, 1) := by decide +kernel
theorem dM_isInstrument_7 : decode cM_isInstrument 7 = .ok (.iload_n 1, 1) := by decide +kernel
theorem dM_isInstrument_8 : decode cM_isInstrument 8 = .ok (.iconst 0, 1) := by decide +kernel
theorem dM_isInstrument_9 : decode cM_isInstrument 9 = .ok (.invokevirtual 93, 3) := by decide +kernel
theorem dM_isInstrument_12 : decode cM_isInstrument 12 = .ok (.ifCond .le 7, 3) := by decide +kernel
theorem dM_isInstrument_15 : decode cM_isInstrument 15 = .ok (.iconst 1, 1) := by decide +kernel
theorem dM_isInstrument_16 : decode cM_isInstrument 16 = .ok (.goto 4, 3) := by decide +kernel
theorem dM_isInstrument_19 : decode cM_isInstrument 19 = .ok (.iconst 0, 1) := by decide +kernel
theorem dM_isInstrument_20 : decode cM_isInstrument 20 = .ok (.istore 4, 2) := by decide +kernel
theorem dM_isInstrument_22 : decode cM_isInstrument 22 = .ok (.aload_n 0, 1) := by decide +kernel
theorem dM_isInstrument_23 : decode cM_isInstrument 23 = .ok (.iconst 1, 1) := by decide +kernel
theorem dM_isInstrument_24 : decode cM_isInstrument 24 = .ok (.iload_n 1, 1) := by decide +kernel
theorem dM_isInstrument_25 : decode cM_isInstrument 25 = .ok (.ishl, 1) := by decide +kernel
theorem dM_isInstrument_26 : decode cM_isInstrument 26 = .ok (.putfield 66, 3) := by decide +kernel
theorem dM_isInstrument_29 : decode cM_isInstrument 29 = .ok (.iload 4, 2) := by decide +kernel
theorem dM_isInstrument_31 : decode cM_isInstrument 31 = .ok (.ifCond .eq 17, 3) := by decide +kernel
theorem dM_isInstrument_34 : decode cM_isInstrument 34 = .ok (.aload_n 0, 1) := by decide +kernel
theorem dM_isInstrument_35 : decode cM_isInstrument 35 = .ok (.iload_n 3, 1) := by decide +kernel
theorem dM_isInstrument_36 : decode cM_isInstrument 36 = .ok (.iload_n 2, 1) := by decide +kernel
theorem dM_isInstrument_37 : decode cM_isInstrument 37 = .ok (.iconst 0, 1) := by decide +kernel
theorem dM_isInstrument_38 : decode cM_isInstrument 38 = .ok (.invokevirtual 93, 3) := by decide +kernel
theorem dM_isInstrument_41 : decode cM_isInstrument 41 = .ok (.ifCond .ne 7, 3) := by decide +kernel
theorem dM_isInstrument_44 : decode cM_isInstrument 44 = .ok (.iconst 1, 1) := by decide +kernel
theorem dM_isInstrument_45 : decode cM_isInstrument 45 = .ok (.goto 4, 3) := by decide +kernel
theorem dM_isInstrument_48 : decode cM_isInstrument 48 = .ok (.iconst 0, 1) := by decide +kernel
theorem dM_isInstrument_49 : decode cM_isInstrument 49 = .ok (.istore 4, 2) := by decide +kernel
theorem dM_isInstrument_51 : decode cM_isInstrument 51 = .ok (.aload_n 0, 1) := by decide +kernel
theorem dM_isInstrument_52 : decode cM_isInstrument 52 = .ok (.iconst 0, 1) := by decide +kernel
theorem dM_isInstrument_53 : decode cM_isInstrument 53 = .ok (.putfield 66, 3) := by decide +kernel
theorem dM_isInstrument_56 : decode cM_isInstrument 56 = .ok (.iload 4, 2) := by decide +kernel
theorem dM_isInstrument_58 : decode cM_isInstrument 58 = .ok (.ireturn, 1) := by decide +kernel
def fM_isInstrument  (w : x_W) (v0 : Nat) (v1 : Int32) (v2 : Int32) (v3 : Int32) : Option (Int32 × x_W) :=
  (x_pf w v0 5 4 (.int (0 : Int32))).bind fun w1 =>
  (x_ob w1 v0 5).bind fun _ =>
  (fM_waysOf w1 v0 v3 v1 (0 : Int32)).bind fun q3 =>
  if q3.1 ≤ (0 : Int32) then
    (x_pf q3.2 v0 5 4 (.int ((1 : Int32) <<< (v1 &&& 31)))).bind fun w5 =>
    (x_pf w5 v0 5 4 (.int (0 : Int32))).bind fun w6 =>
    some ((0 : Int32), w6)
  else
    (x_pf q3.2 v0 5 4 (.int ((1 : Int32) <<< (v1 &&& 31)))).bind fun w7 =>
    (x_ob w7 v0 5).bind fun _ =>
    (fM_waysOf w7 v0 v3 v2 (0 : Int32)).bind fun q9 =>
    if q9.1 = (0 : Int32) then
      (x_pf q9.2 v0 5 4 (.int (0 : Int32))).bind fun w11 =>
      some ((1 : Int32), w11)
    else
      (x_pf q9.2 v0 5 4 (.int (0 : Int32))).bind fun w12 =>
      some ((0 : Int32), w12)
set_option maxHeartbeats 4000000 in
set_option maxRecDepth 100000 in
theorem mM_isInstrument (d : Nat) (hd : 8 ≤ d) {K : Option Value → x_W → Prop} {w : x_W} {v0 : Nat} {v1 : Int32} {v2 : Int32} {v3 : Int32} {r : (Int32 × x_W)} (h : fM_isInstrument w v0 v1 v2 v3 = some r) (hK : K (some (.int r.1)) r.2) : x_M yM_isInstrument cM_isInstrument 5 (some .boolean) d 0 0 [.ref v0, .int v1, .int v2, .int v3] w K := by
  refine x_M.of [some (.ref v0), some (.int v1), some (.int v2), some (.int v3), none] (by decide) rfl (Nat.le_of_ble_eq_true rfl) ?_
  unfold fM_isInstrument at h
  refine g_aload_n 1 (i := 0) dM_isInstrument_0 rfl rfl rfl ?_
  refine g_iconst 2 (0 : Int32) dM_isInstrument_1 rfl (by decide) ?_
  obtain ⟨w1, e1, h⟩ := x_bind h
  refine g_putf 5 5 4 xy5 xy5_ok xn5 dM_isInstrument_2 rfl x_in5 tw_2_239 rfl (by decide) rfl (fun _ _ => ⟨rfl, rfl⟩) e1 ?_
  refine g_aload_n 6 (i := 0) dM_isInstrument_5 rfl rfl rfl ?_
  refine g_iload_n 7 (i := 3) dM_isInstrument_6 rfl rfl rfl ?_
  refine g_iload_n 8 (i := 1) dM_isInstrument_7 rfl rfl rfl ?_
  refine g_iconst 9 (0 : Int32) dM_isInstrument_8 rfl (by decide) ?_
  obtain ⟨_, e2, h⟩ := x_bind h
  obtain ⟨q3, e3, h⟩ := x_bind h
  refine g_cV 12 (some (.int q3.1)) q3.2 [.int v3, .int v1, .int (0 : Int32)] [] dM_isInstrument_9 rfl (fun _ hK2 => mM_waysOf (d - 1) (by omega) e3 hK2) (x_ob_some e2) kM_93 (x_rm (Nat.le_trans (by decide) hd) (by decide)) ⟨Nat.zero_le _, Nat.zero_le _⟩ (Nat.le_of_ble_eq_true rfl) rfl ?_
  by_cases c4 : q3.1 ≤ (0 : Int32)
  · rw [if_pos c4] at h
    refine g_if_le_t 19 dM_isInstrument_12 (by decide) c4 ?_
    refine g_iconst 20 (0 : Int32) dM_isInstrument_19 rfl (by decide) ?_
    refine g_istore 22 [some (.ref v0), some (.int v1), some (.int v2), some (.int v3), some (.int (0 : Int32))] dM_isInstrument_20 rfl rfl (by decide) ?_
    refine g_aload_n 23 (i := 0) dM_isInstrument_22 rfl rfl rfl ?_
    refine g_iconst 24 (1 : Int32) dM_isInstrument_23 rfl (by decide) ?_
    refine g_iload_n 25 (i := 1) dM_isInstrument_24 rfl rfl rfl ?_
    refine g_ishl 26 dM_isInstrument_25 rfl ?_
    obtain ⟨w5, e5, h⟩ := x_bind h
    refine g_putf 29 5 4 xy5 xy5_ok xn5 dM_isInstrument_26 rfl x_in5 tw_2_239 rfl (by decide) rfl (fun _ _ => ⟨rfl, rfl⟩) e5 ?_
    refine g_iload 31 dM_isInstrument_29 rfl rfl ?_
    refine g_if_eq_t 48 dM_isInstrument_31 (by decide) (by decide) ?_
    refine g_iconst 49 (0 : Int32) dM_isInstrument_48 rfl (by decide) ?_
    refine g_istore 51 [some (.ref v0), some (.int v1), some (.int v2), some (.int v3), some (.int (0 : Int32))] dM_isInstrument_49 rfl rfl (by decide) ?_
    refine g_aload_n 52 (i := 0) dM_isInstrument_51 rfl rfl rfl ?_
    refine g_iconst 53 (0 : Int32) dM_isInstrument_52 rfl (by decide) ?_
    obtain ⟨w6, e6, h⟩ := x_bind h
    refine g_putf 56 5 4 xy5 xy5_ok xn5 dM_isInstrument_53 rfl x_in5 tw_2_239 rfl (by decide) rfl (fun _ _ => ⟨rfl, rfl⟩) e6 ?_
    refine g_iload 58 dM_isInstrument_56 rfl rfl ?_
    obtain rfl := Option.some.inj h
    exact g_zret rfl (by decide) dM_isInstrument_58 hK
  · rw [if_neg c4] at h
    refine g_if_le_f 15 19 dM_isInstrument_12 (by decide) rfl c4 ?_
    refine g_iconst 16 (1 : Int32) dM_isInstrument_15 rfl (by decide) ?_
    refine g_goto 20 dM_isInstrument_16 (by decide) ?_
    refine g_istore 22 [some (.ref v0), some (.int v1), some (.int v2), some (.int v3), some (.int (1 : Int32))] dM_isInstrument_20 rfl rfl (by decide) ?_
    refine g_aload_n 23 (i := 0) dM_isInstrument_22 rfl rfl rfl ?_
    refine g_iconst 24 (1 : Int32) dM_isInstrument_23 rfl (by decide) ?_
    refine g_iload_n 25 (i := 1) dM_isInstrument_24 rfl rfl rfl ?_
    refine g_ishl 26 dM_isInstrument_25 rfl ?_
    obtain ⟨w7, e7, h⟩ := x_bind h
    refine g_putf 29 5 4 xy5 xy5_ok xn5 dM_isInstrument_26 rfl x_in5 tw_2_239 rfl (by decide) rfl (fun _ _ => ⟨rfl, rfl⟩) e7 ?_
    refine g_iload 31 dM_isInstrument_29 rfl rfl ?_
    refine g_if_eq_f 34 48 dM_isInstrument_31 (by decide) rfl (by decide) ?_
    refine g_aload_n 35 (i := 0) dM_isInstrument_34 rfl rfl rfl ?_
    refine g_iload_n 36 (i := 3) dM_isInstrument_35 rfl rfl rfl ?_
    refine g_iload_n 37 (i := 2) dM_isInstrument_36 rfl rfl rfl ?_
    refine g_iconst 38 (0 : Int32) dM_isInstrument_37 rfl (by decide) ?_
    obtain ⟨_, e8, h⟩ := x_bind h
    obtain ⟨q9, e9, h⟩ := x_bind h
    refine g_cV 41 (some (.int q9.1)) q9.2 [.int v3, .int v2, .int (0 : Int32)] [] dM_isInstrument_38 rfl (fun _ hK2 => mM_waysOf (d - 1) (by omega) e9 hK2) (x_ob_some e8) kM_93 (x_rm (Nat.le_trans (by decide) hd) (by decide)) ⟨Nat.zero_le _, Nat.zero_le _⟩ (Nat.le_of_ble_eq_true rfl) rfl ?_
    by_cases c10 : q9.1 = (0 : Int32)
    · rw [if_pos c10] at h
      refine g_if_ne_f 44 48 dM_isInstrument_41 (by decide) rfl c10 ?_
      refine g_iconst 45 (1 : Int32) dM_isInstrument_44 rfl (by decide) ?_
      refine g_goto 49 dM_isInstrument_45 (by decide) ?_
      refine g_istore 51 [some (.ref v0), some (.int v1), some (.int v2), some (.int v3), some (.int (1 : Int32))] dM_isInstrument_49 rfl rfl (by decide) ?_
      refine g_aload_n 52 (i := 0) dM_isInstrument_51 rfl rfl rfl ?_
      refine g_iconst 53 (0 : Int32) dM_isInstrument_52 rfl (by decide) ?_
      obtain ⟨w11, e11, h⟩ := x_bind h
      refine g_putf 56 5 4 xy5 xy5_ok xn5 dM_isInstrument_53 rfl x_in5 tw_2_239 rfl (by decide) rfl (fun _ _ => ⟨rfl, rfl⟩) e11 ?_
      refine g_iload 58 dM_isInstrument_56 rfl rfl ?_
      obtain rfl := Option.some.inj h
      exact g_zret rfl (by decide) dM_isInstrument_58 hK
    · rw [if_neg c10] at h
      refine g_if_ne_t 48 dM_isInstrument_41 (by decide) c10 ?_
      refine g_iconst 49 (0 : Int32) dM_isInstrument_48 rfl (by decide) ?_
      refine g_istore 51 [some (.ref v0), some (.int v1), some (.int v2), some (.int v3), some (.int (0 : Int32))] dM_isInstrument_49 rfl rfl (by decide) ?_
      refine g_aload_n 52 (i := 0) dM_isInstrument_51 rfl rfl rfl ?_
      refine g_iconst 53 (0 : Int32) dM_isInstrument_52 rfl (by decide) ?_
      obtain ⟨w12, e12, h⟩ := x_bind h
      refine g_putf 56 5 4 xy5 xy5_ok xn5 dM_isInstrument_53 rfl x_in5 tw_2_239 rfl (by decide) rfl (fun _ _ => ⟨rfl, rfl⟩) e12 ?_
      refine g_iload 58 dM_isInstrument_56 rfl rfl ?_
      obtain rfl := Option.some.inj h
      exact g_zret rfl (by decide) dM_isInstrument_58 hK
/-! ActSurgeryModel.only(I)I: level N -/
theorem dM_only_0 : decode cM_only 0 = .ok (.iconst 0, 1) := by decide +kernel
theorem dM_only_1 : decode cM_only 1 = .ok (.istore_n 1, 1) := by decide +kernel
theorem dM_only_2 : decode cM_only 2 = .ok (.iload_n 0, 1) := by decide +kernel
theorem dM_only_3 : decode cM_only 3 = .ok (.iload_n 1, 1) := by decide +kernel
theorem dM_only_4 : decode cM_only 4 = .ok (.invokestatic 62, 3) := by decide +kernel
theorem dM_only_7 : decode cM_only 7 = .ok (.ifCond .ne 9, 3) := by decide +kernel
theorem dM_only_10 : decode cM_only 10 = .ok (.iinc 1 1, 3) := by decide +kernel
theorem dM_only_13 : decode cM_only 13 = .ok (.goto (-11), 3) := by decide +kernel
theorem dM_only_16 : decode cM_only 16 = .ok (.iload_n 1, 1) := by decide +kernel
theorem dM_only_17 : decode cM_only 17 = .ok (.ireturn, 1) := by decide +kernel
def fM_only_2  : Nat → Int32 → Int32 → Option Int32
  | 0, _, _ => none
  | n + 1, v0, v1 =>
    if (fM_has v0 v1) = (0 : Int32) then
      fM_only_2 n v0 (v1 + (1 : Int32))
    else
      some v1
def fM_only  (v0 : Int32) : Option Int32 :=
  fM_only_2 x_F v0 (0 : Int32)
set_option maxHeartbeats 4000000 in
set_option maxRecDepth 100000 in
theorem lM_only_2 (d : Nat) (hd : 2 ≤ d) {K : Option Value → x_W → Prop} {r : Int32} {w : x_W} (hK : K (some (.int r)) w) : ∀ (n : Nat) (v0 : Int32) (v1 : Int32), fM_only_2 n v0 v1 = some r → x_G none yM_only cM_only 2 (some .int) (x_room d 0 0) (x_QM K 0 0) 2 [some (.int v0), some (.int v1)] [] w 0 0 := by
  intro n
  induction n with
  | zero => intro v0 v1 h; rw [fM_only_2] at h; cases h
  | succ n ih =>
    intro v0 v1 h
    rw [fM_only_2] at h
    refine g_iload_n 3 (i := 0) dM_only_2 rfl rfl rfl ?_
    refine g_iload_n 4 (i := 1) dM_only_3 rfl rfl rfl ?_
    refine g_cS 7 (some (.int (fM_has v0 v1))) w [.int v0, .int v1] [] dM_only_4 rfl (fun _ hK2 => mM_has (d - 1) (by omega) rfl hK2) kM_62 (x_rm (Nat.le_trans (by decide) hd) (by decide)) ⟨Nat.zero_le _, Nat.zero_le _⟩ (Nat.le_of_ble_eq_true rfl) rfl ?_
    by_cases c1 : (fM_has v0 v1) = (0 : Int32)
    · rw [if_pos c1] at h
      refine g_if_ne_f 10 16 dM_only_7 (by decide) rfl c1 ?_
      refine g_iinc 13 [some (.int v0), some (.int (v1 + (1 : Int32)))] dM_only_10 rfl rfl (x_inc (1 : Int32) (by decide)) rfl (by decide) ?_
      refine g_goto 2 dM_only_13 (by decide) ?_
      exact ih _ _ h
    · rw [if_neg c1] at h
      refine g_if_ne_t 16 dM_only_7 (by decide) c1 ?_
      refine g_iload_n 17 (i := 1) dM_only_16 rfl rfl rfl ?_
      obtain rfl := Option.some.inj h
      exact g_iret rfl dM_only_17 hK
set_option maxHeartbeats 4000000 in
set_option maxRecDepth 100000 in
theorem mM_only (d : Nat) (hd : 2 ≤ d) {K : Option Value → x_W → Prop} {w : x_W} {v0 : Int32} {r : Int32} (h : fM_only v0 = some r) (hK : K (some (.int r)) w) : x_M yM_only cM_only 2 (some .int) d 0 0 [.int v0] w K := by
  refine x_M.of [some (.int v0), none] (by decide) rfl (Nat.le_of_ble_eq_true rfl) ?_
  unfold fM_only at h
  refine g_iconst 1 (0 : Int32) dM_only_0 rfl (by decide) ?_
  refine g_istore_n 2 (i := 1) [some (.int v0), some (.int (0 : Int32))] dM_only_1 rfl rfl rfl (by decide) ?_
  exact lM_only_2 d hd hK x_F _ _ h
/-! ActSurgeryModel.isTelling(IIII)Z: level X -/
theorem dM_isTelling_0 : decode cM_isTelling 0 = .ok (.iload_n 1, 1) := by decide +kernel
theorem dM_isTelling_1 : decode cM_isTelling 1 = .ok (.ifCond .ne 14, 3) := by decide +kernel
theorem dM_isTelling_4 : decode cM_isTelling 4 = .ok (.aload_n 0, 1) := by decide +kernel
theorem dM_isTelling_5 : decode cM_isTelling 5 = .ok (.iload_n 2, 1) := by decide +kernel
theorem dM_isTelling_6 : decode cM_isTelling 6 = .ok (.iload_n 3, 1) := by decide +kernel
theorem dM_isTelling_7 : decode cM_isTelling 7 = .ok (.iload 4, 2) := by decide +kernel
theorem dM_isTelling_9 : decode cM_isTelling 9 = .ok (.invokevirtual 103, 3) := by decide +kernel
theorem dM_isTelling_12 : decode cM_isTelling 12 = .ok (.goto 47, 3) := by decide +kernel
theorem dM_isTelling_15 : decode cM_isTelling 15 = .ok (.iload_n 1, 1) := by decide +kernel
theorem dM_isTelling_16 : decode cM_isTelling 16 = .ok (.iconst 1, 1) := by decide +kernel
theorem dM_isTelling_17 : decode cM_isTelling 17 = .ok (.if_icmp .ne 14, 3) := by decide +kernel
theorem dM_isTelling_20 : decode cM_isTelling 20 = .ok (.aload_n 0, 1) := by decide +kernel
theorem dM_isTelling_21 : decode cM_isTelling 21 = .ok (.iload_n 2, 1) := by decide +kernel
theorem dM_isTelling_22 : decode cM_isTelling 22 = .ok (.iload_n 3, 1) := by decide +kernel
theorem dM_isTelling_23 : decode cM_isTelling 23 = .ok (.iload 4, 2) := by decide +kernel
theorem dM_isTelling_25 : decode cM_isTelling 25 = .ok (.invokevirtual 106, 3) := by decide +kernel
theorem dM_isTelling_28 : decode cM_isTelling 28 = .ok (.goto 31, 3) := by decide +kernel
theorem dM_isTelling_31 : decode cM_isTelling 31 = .ok (.iload 4, 2) := by decide +kernel
theorem dM_isTelling_33 : decode cM_isTelling 33 = .ok (.invokestatic 97, 3) := by decide +kernel
theorem dM_isTelling_36 : decode cM_isTelling 36 = .ok (.iconst 1, 1) := by decide +kernel
theorem dM_isTelling_37 : decode cM_isTelling 37 = .ok (.if_icmp .ne 21, 3) := by decide +kernel
theorem dM_isTelling_40 : decode cM_isTelling 40 = .ok (.aload_n 0, 1) := by decide +kernel
theorem dM_isTelling_41 : decode cM_isTelling 41 = .ok (.iload_n 2, 1) := by decide +kernel
theorem dM_isTelling_42 : decode cM_isTelling 42 = .ok (.iload_n 3, 1) := by decide +kernel
theorem dM_isTelling_43 : decode cM_isTelling 43 = .ok (.iload 4, 2) := by decide +kernel
theorem dM_isTelling_45 : decode cM_isTelling 45 = .ok (.invokestatic 109, 3) := by decide +kernel
theorem dM_isTelling_48 : decode cM_isTelling 48 = .ok (.invokevirtual 112, 3) := by decide +kernel
theorem dM_isTelling_51 : decode cM_isTelling 51 = .ok (.ifCond .eq 7, 3) := by decide +kernel
theorem dM_isTelling_54 : decode cM_isTelling 54 = .ok (.iconst 1, 1) := by decide +kernel
theorem dM_isTelling_55 : decode cM_isTelling 55 = .ok (.goto 4, 3) := by decide +kernel
theorem dM_isTelling_58 : decode cM_isTelling 58 = .ok (.iconst 0, 1) := by decide +kernel
theorem dM_isTelling_59 : decode cM_isTelling 59 = .ok (.ireturn, 1) := by decide +kernel
theorem tw_3_139 : (Jvm.Cond.instanceMethod ({ cls := "ActSurgeryModel", name := "isBack", desc := "(III)Z" } : Jvm.MethodName)) ∈ x_GT := x_t3 139 rfl rfl
theorem tws_45 : (Jvm.Cond.selects "ActSurgeryModel" ({ cls := "ActSurgeryModel", name := "isBack", desc := "(III)Z" } : Jvm.MethodName) ({ cls := "ActSurgeryModel", name := "isBack", desc := "(III)Z" } : Jvm.MethodName)) ∈ x_GT := x_ts 45 rfl rfl
theorem tw_3_140 : (Jvm.Cond.code ({ cls := "ActSurgeryModel", name := "isBack", desc := "(III)Z" } : Jvm.MethodName) prog_7_method_27_code (5 : Nat) (Option.some Jvm.ClassFile.FieldType.boolean)) ∈ x_GT := x_t3 140 rfl rfl
theorem tw_3_137 : (Jvm.Cond.methodLink "ActSurgeryModel" (103 : Nat) ({ cls := "ActSurgeryModel", name := "isBack", desc := "(III)Z" } : Jvm.MethodName)) ∈ x_GT := x_t3 137 rfl rfl
theorem kM_103 : x_kV "ActSurgeryModel" 103 yM_isBack cM_isBack 5 (some .boolean) 3 5 := ⟨tw_3_139, tws_45, tw_3_140, tw_1_6, tw_3_137, (by decide +kernel), rfl⟩
theorem tw_3_143 : (Jvm.Cond.instanceMethod ({ cls := "ActSurgeryModel", name := "isFront", desc := "(III)Z" } : Jvm.MethodName)) ∈ x_GT := x_t3 143 rfl rfl
theorem tws_46 : (Jvm.Cond.selects "ActSurgeryModel" ({ cls := "ActSurgeryModel", name := "isFront", desc := "(III)Z" } : Jvm.MethodName) ({ cls := "ActSurgeryModel", name := "isFront", desc := "(III)Z" } : Jvm.MethodName)) ∈ x_GT := x_ts 46 rfl rfl
theorem tw_3_144 : (Jvm.Cond.code ({ cls := "ActSurgeryModel", name := "isFront", desc := "(III)Z" } : Jvm.MethodName) prog_7_method_28_code (6 : Nat) (Option.some Jvm.ClassFile.FieldType.boolean)) ∈ x_GT := x_t3 144 rfl rfl
theorem tw_3_141 : (Jvm.Cond.methodLink "ActSurgeryModel" (106 : Nat) ({ cls := "ActSurgeryModel", name := "isFront", desc := "(III)Z" } : Jvm.MethodName)) ∈ x_GT := x_t3 141 rfl rfl
theorem kM_106 : x_kV "ActSurgeryModel" 106 yM_isFront cM_isFront 6 (some .boolean) 3 5 := ⟨tw_3_143, tws_46, tw_3_144, tw_1_6, tw_3_141, (by decide +kernel), rfl⟩
theorem tw_3_146 : (Jvm.Cond.static ({ cls := "ActSurgeryModel", name := "only", desc := "(I)I" } : Jvm.MethodName)) ∈ x_GT := x_t3 146 rfl rfl
theorem tw_3_147 : (Jvm.Cond.code ({ cls := "ActSurgeryModel", name := "only", desc := "(I)I" } : Jvm.MethodName) prog_7_method_30_code (2 : Nat) (Option.some Jvm.ClassFile.FieldType.int)) ∈ x_GT := x_t3 147 rfl rfl
theorem tw_3_145 : (Jvm.Cond.methodLink "ActSurgeryModel" (109 : Nat) ({ cls := "ActSurgeryModel", name := "only", desc := "(I)I" } : Jvm.MethodName)) ∈ x_GT := x_t3 145 rfl rfl
theorem kM_109 : x_kS "ActSurgeryModel" 109 yM_only cM_only 2 (some .int) 1 := ⟨tw_3_146, tw_3_147, tw_1_6, tw_3_145, (by decide +kernel)⟩
theorem tw_3_150 : (Jvm.Cond.instanceMethod ({ cls := "ActSurgeryModel", name := "isInstrument", desc := "(III)Z" } : Jvm.MethodName)) ∈ x_GT := x_t3 150 rfl rfl
theorem tws_47 : (Jvm.Cond.selects "ActSurgeryModel" ({ cls := "ActSurgeryModel", name := "isInstrument", desc := "(III)Z" } : Jvm.MethodName) ({ cls := "ActSurgeryModel", name := "isInstrument", desc := "(III)Z" } : Jvm.MethodName)) ∈ x_GT := x_ts 47 rfl rfl
theorem tw_3_151 : (Jvm.Cond.code ({ cls := "ActSurgeryModel", name := "isInstrument", desc := "(III)Z" } : Jvm.MethodName) prog_7_method_29_code (5 : Nat) (Option.some Jvm.ClassFile.FieldType.boolean)) ∈ x_GT := x_t3 151 rfl rfl
theorem tw_3_148 : (Jvm.Cond.methodLink "ActSurgeryModel" (112 : Nat) ({ cls := "ActSurgeryModel", name := "isInstrument", desc := "(III)Z" } : Jvm.MethodName)) ∈ x_GT := x_t3 148 rfl rfl
theorem kM_112 : x_kV "ActSurgeryModel" 112 yM_isInstrument cM_isInstrument 5 (some .boolean) 3 5 := ⟨tw_3_150, tws_47, tw_3_151, tw_1_6, tw_3_148, (by decide +kernel), rfl⟩
def fM_isTelling  (w : x_W) (v0 : Nat) (v1 : Int32) (v2 : Int32) (v3 : Int32) (v4 : Int32) : Option (Int32 × x_W) :=
  if v1 = (0 : Int32) then
    (x_ob w v0 5).bind fun _ =>
    (fM_isBack w v0 v2 v3 v4).bind fun q3 =>
    if q3.1 = 0 ∨ q3.1 = 1 then some (q3.1, q3.2) else none
  else
    if v1 = (1 : Int32) then
      (x_ob w v0 5).bind fun _ =>
      (fM_isFront w v0 v2 v3 v4).bind fun q7 =>
      if q7.1 = 0 ∨ q7.1 = 1 then some (q7.1, q7.2) else none
    else
      (fM_ones v4).bind fun t9 =>
      if t9 = (1 : Int32) then
        (fM_only v4).bind fun t11 =>
        (x_ob w v0 5).bind fun _ =>
        (fM_isInstrument w v0 v2 v3 t11).bind fun q13 =>
        if q13.1 = (0 : Int32) then
          some ((0 : Int32), q13.2)
        else
          some ((1 : Int32), q13.2)
      else
        some ((0 : Int32), w)
set_option maxHeartbeats 4000000 in
set_option maxRecDepth 100000 in
theorem mM_isTelling (d : Nat) (hd : 9 ≤ d) {K : Option Value → x_W → Prop} {w : x_W} {v0 : Nat} {v1 : Int32} {v2 : Int32} {v3 : Int32} {v4 : Int32} {r : (Int32 × x_W)} (h : fM_isTelling w v0 v1 v2 v3 v4 = some r) (hK : K (some (.int r.1)) r.2) : x_M yM_isTelling cM_isTelling 5 (some .boolean) d 0 0 [.ref v0, .int v1, .int v2, .int v3, .int v4] w K := by
  refine x_M.of [some (.ref v0), some (.int v1), some (.int v2), some (.int v3), some (.int v4)] (by decide) rfl (Nat.le_of_ble_eq_true rfl) ?_
  unfold fM_isTelling at h
  refine g_iload_n 1 (i := 1) dM_isTelling_0 rfl rfl rfl ?_
  by_cases c1 : v1 = (0 : Int32)
  · rw [if_pos c1] at h
    refine g_if_ne_f 4 15 dM_isTelling_1 (by decide) rfl c1 ?_
    refine g_aload_n 5 (i := 0) dM_isTelling_4 rfl rfl rfl ?_
    refine g_iload_n 6 (i := 2) dM_isTelling_5 rfl rfl rfl ?_
    refine g_iload_n 7 (i := 3) dM_isTelling_6 rfl rfl rfl ?_
    refine g_iload 9 dM_isTelling_7 rfl rfl ?_
    obtain ⟨_, e2, h⟩ := x_bind h
    obtain ⟨q3, e3, h⟩ := x_bind h
    refine g_cV 12 (some (.int q3.1)) q3.2 [.int v2, .int v3, .int v4] [] dM_isTelling_9 rfl (fun _ hK2 => mM_isBack (d - 1) (by omega) e3 hK2) (x_ob_some e2) kM_103 (x_rm (Nat.le_trans (by decide) hd) (by decide)) ⟨Nat.zero_le _, Nat.zero_le _⟩ (Nat.le_of_ble_eq_true rfl) rfl ?_
    refine g_goto 59 dM_isTelling_12 (by decide) ?_
    have c4 : q3.1 = 0 ∨ q3.1 = 1 := by
      by_cases c : q3.1 = 0 ∨ q3.1 = 1
      · exact c
      · rw [if_neg c] at h; cases h
    rw [if_pos c4] at h
    obtain rfl := Option.some.inj h
    exact g_zret rfl c4 dM_isTelling_59 hK
  · rw [if_neg c1] at h
    refine g_if_ne_t 15 dM_isTelling_1 (by decide) c1 ?_
    refine g_iload_n 16 (i := 1) dM_isTelling_15 rfl rfl rfl ?_
    refine g_iconst 17 (1 : Int32) dM_isTelling_16 rfl (by decide) ?_
    by_cases c5 : v1 = (1 : Int32)
    · rw [if_pos c5] at h
      refine g_icmp_ne_f 20 31 dM_isTelling_17 (by decide) rfl c5 ?_
      refine g_aload_n 21 (i := 0) dM_isTelling_20 rfl rfl rfl ?_
      refine g_iload_n 22 (i := 2) dM_isTelling_21 rfl rfl rfl ?_
      refine g_iload_n 23 (i := 3) dM_isTelling_22 rfl rfl rfl ?_
      refine g_iload 25 dM_isTelling_23 rfl rfl ?_
      obtain ⟨_, e6, h⟩ := x_bind h
      obtain ⟨q7, e7, h⟩ := x_bind h
      refine g_cV 28 (some (.int q7.1)) q7.2 [.int v2, .int v3, .int v4] [] dM_isTelling_25 rfl (fun _ hK2 => mM_isFront (d - 1) (by omega) e7 hK2) (x_ob_some e6) kM_106 (x_rm (Nat.le_trans (by decide) hd) (by decide)) ⟨Nat.zero_le _, Nat.zero_le _⟩ (Nat.le_of_ble_eq_true rfl) rfl ?_
      refine g_goto 59 dM_isTelling_28 (by decide) ?_
      have c8 : q7.1 = 0 ∨ q7.1 = 1 := by
        by_cases c : q7.1 = 0 ∨ q7.1 = 1
        · exact c
        · rw [if_neg c] at h; cases h
      rw [if_pos c8] at h
      obtain rfl := Option.some.inj h
      exact g_zret rfl c8 dM_isTelling_59 hK
    · rw [if_neg c5] at h
      refine g_icmp_ne_t 31 dM_isTelling_17 (by decide) c5 ?_
      refine g_iload 33 dM_isTelling_31 rfl rfl ?_
      obtain ⟨t9, e9, h⟩ := x_bind h
      refine g_cS 36 (some (.int t9)) w [.int v4] [] dM_isTelling_33 rfl (fun _ hK2 => mM_ones (d - 1) (by omega) e9 hK2) kM_97 (x_rm (Nat.le_trans (by decide) hd) (by decide)) ⟨Nat.zero_le _, Nat.zero_le _⟩ (Nat.le_of_ble_eq_true rfl) rfl ?_
      refine g_iconst 37 (1 : Int32) dM_isTelling_36 rfl (by decide) ?_
      by_cases c10 : t9 = (1 : Int32)
      · rw [if_pos c10] at h
        refine g_icmp_ne_f 40 58 dM_isTelling_37 (by decide) rfl c10 ?_
        refine g_aload_n 41 (i := 0) dM_isTelling_40 rfl rfl rfl ?_
        refine g_iload_n 42 (i := 2) dM_isTelling_41 rfl rfl rfl ?_
        refine g_iload_n 43 (i := 3) dM_isTelling_42 rfl rfl rfl ?_
        refine g_iload 45 dM_isTelling_43 rfl rfl ?_
        obtain ⟨t11, e11, h⟩ := x_bind h
        refine g_cS 48 (some (.int t11)) w [.int v4] [.int v3, .int v2, .ref v0] dM_isTelling_45 rfl (fun _ hK2 => mM_only (d - 1) (by omega) e11 hK2) kM_109 (x_rm (Nat.le_trans (by decide) hd) (by decide)) ⟨Nat.zero_le _, Nat.zero_le _⟩ (Nat.le_of_ble_eq_true rfl) rfl ?_
        obtain ⟨_, e12, h⟩ := x_bind h
        obtain ⟨q13, e13, h⟩ := x_bind h
        refine g_cV 51 (some (.int q13.1)) q13.2 [.int v2, .int v3, .int t11] [] dM_isTelling_48 rfl (fun _ hK2 => mM_isInstrument (d - 1) (by omega) e13 hK2) (x_ob_some e12) kM_112 (x_rm (Nat.le_trans (by decide) hd) (by decide)) ⟨Nat.zero_le _, Nat.zero_le _⟩ (Nat.le_of_ble_eq_true rfl) rfl ?_
        by_cases c14 : q13.1 = (0 : Int32)
        · rw [if_pos c14] at h
          refine g_if_eq_t 58 dM_isTelling_51 (by decide) c14 ?_
          refine g_iconst 59 (0 : Int32) dM_isTelling_58 rfl (by decide) ?_
          obtain rfl := Option.some.inj h
          exact g_zret rfl (by decide) dM_isTelling_59 hK
        · rw [if_neg c14] at h
          refine g_if_eq_f 54 58 dM_isTelling_51 (by decide) rfl c14 ?_
          refine g_iconst 55 (1 : Int32) dM_isTelling_54 rfl (by decide) ?_
          refine g_goto 59 dM_isTelling_55 (by decide) ?_
          obtain rfl := Option.some.inj h
          exact g_zret rfl (by decide) dM_isTelling_59 hK
      · rw [if_neg c10] at h
        refine g_icmp_ne_t 58 dM_isTelling_37 (by decide) c10 ?_
        refine g_iconst 59 (0 : Int32) dM_isTelling_58 rfl (by decide) ?_
        obtain rfl := Option.some.inj h
        exact g_zret rfl (by decide) dM_isTelling_59 hK
/-! ActSurgeryModel.isSeenPair(III)Z: level P -/
theorem dM_isSeenPair_0 : decode cM_isSeenPair 0 = .ok (.iload_n 1, 1) := by decide +kernel
theorem dM_isSeenPair_1 : decode cM_isSeenPair 1 = .ok (.iconst 0, 1) := by decide +kernel
theorem dM_isSeenPair_2 : decode cM_isSeenPair 2 = .ok (.iconst 2, 1) := by decide +kernel
theorem dM_isSeenPair_3 : decode cM_isSeenPair 3 = .ok (.invokestatic 48, 3) := by decide +kernel
theorem dM_isSeenPair_6 : decode cM_isSeenPair 6 = .ok (.ifCond .eq 43, 3) := by decide +kernel
theorem dM_isSeenPair_9 : decode cM_isSeenPair 9 = .ok (.aload_n 0, 1) := by decide +kernel
theorem dM_isSeenPair_10 : decode cM_isSeenPair 10 = .ok (.iload_n 2, 1) := by decide +kernel
theorem dM_isSeenPair_11 : decode cM_isSeenPair 11 = .ok (.iload_n 3, 1) := by decide +kernel
theorem dM_isSeenPair_12 : decode cM_isSeenPair 12 = .ok (.iconst 0, 1) := by decide +kernel
theorem dM_isSeenPair_13 : decode cM_isSeenPair 13 = .ok (.invokevirtual 90, 3) := by decide +kernel
theorem dM_isSeenPair_16 : decode cM_isSeenPair 16 = .ok (.ifCond .eq 33, 3) := by decide +kernel
theorem dM_isSeenPair_19 : decode cM_isSeenPair 19 = .ok (.aload_n 0, 1) := by decide +kernel
theorem dM_isSeenPair_20 : decode cM_isSeenPair 20 = .ok (.getfield 19, 3) := by decide +kernel
theorem dM_isSeenPair_23 : decode cM_isSeenPair 23 = .ok (.iconst 0, 1) := by decide +kernel
theorem dM_isSeenPair_24 : decode cM_isSeenPair 24 = .ok (.iaload, 1) := by decide +kernel
theorem dM_isSeenPair_25 : decode cM_isSeenPair 25 = .ok (.iload_n 2, 1) := by decide +kernel
theorem dM_isSeenPair_26 : decode cM_isSeenPair 26 = .ok (.invokestatic 62, 3) := by decide +kernel
theorem dM_isSeenPair_29 : decode cM_isSeenPair 29 = .ok (.ifCond .ne 20, 3) := by decide +kernel
theorem dM_isSeenPair_32 : decode cM_isSeenPair 32 = .ok (.aload_n 0, 1) := by decide +kernel
theorem dM_isSeenPair_33 : decode cM_isSeenPair 33 = .ok (.getfield 19, 3) := by decide +kernel
theorem dM_isSeenPair_36 : decode cM_isSeenPair 36 = .ok (.iconst 0, 1) := by decide +kernel
theorem dM_isSeenPair_37 : decode cM_isSeenPair 37 = .ok (.iaload, 1) := by decide +kernel
theorem dM_isSeenPair_38 : decode cM_isSeenPair 38 = .ok (.iload_n 3, 1) := by decide +kernel
theorem dM_isSeenPair_39 : decode cM_isSeenPair 39 = .ok (.invokestatic 62, 3) := by decide +kernel
theorem dM_isSeenPair_42 : decode cM_isSeenPair 42 = .ok (.ifCond .ne 7, 3) := by decide +kernel
theorem dM_isSeenPair_45 : decode cM_isSeenPair 45 = .ok (.iconst 1, 1) := by decide +kernel
theorem dM_isSeenPair_46 : decode cM_isSeenPair 46 = .ok (.goto 4, 3) := by decide +kernel
theorem dM_isSeenPair_49 : decode cM_isSeenPair 49 = .ok (.iconst 0, 1) := by decide +kernel
theorem dM_isSeenPair_50 : decode cM_isSeenPair 50 = .ok (.ireturn, 1) := by decide +kernel
def fM_isSeenPair (w : x_W) (v0 : Nat) (v1 : Int32) (v2 : Int32) (v3 : Int32) : Option Int32 :=
  if (fM_isIn v1 (0 : Int32) (2 : Int32)) = (0 : Int32) then
    some (0 : Int32)
  else
    (x_ob w v0 5).bind fun _ =>
    (fM_isPair w v0 v2 v3 (0 : Int32)).bind fun t3 =>
    if t3 = (0 : Int32) then
      some (0 : Int32)
    else
      (x_fr w v0 5 3).bind fun t5 =>
      (x_ai w t5 (0 : Int32)).bind fun t6 =>
      if (fM_has t6 v2) = (0 : Int32) then
        if (fM_has t6 v3) = (0 : Int32) then
          some (1 : Int32)
        else
          some (0 : Int32)
      else
        some (0 : Int32)
set_option maxHeartbeats 4000000 in
set_option maxRecDepth 100000 in
theorem mM_isSeenPair (d : Nat) (hd : 5 ≤ d) {K : Option Value → x_W → Prop} {w : x_W} {v0 : Nat} {v1 : Int32} {v2 : Int32} {v3 : Int32} {r : Int32} (h : fM_isSeenPair w v0 v1 v2 v3 = some r) (hK : K (some (.int r)) w) : x_M yM_isSeenPair cM_isSeenPair 4 (some .boolean) d 0 0 [.ref v0, .int v1, .int v2, .int v3] w K := by
  refine x_M.of [some (.ref v0), some (.int v1), some (.int v2), some (.int v3)] (by decide) rfl (Nat.le_of_ble_eq_true rfl) ?_
  unfold fM_isSeenPair at h
  refine g_iload_n 1 (i := 1) dM_isSeenPair_0 rfl rfl rfl ?_
  refine g_iconst 2 (0 : Int32) dM_isSeenPair_1 rfl (by decide) ?_
  refine g_iconst 3 (2 : Int32) dM_isSeenPair_2 rfl (by decide) ?_
  refine g_cS 6 (some (.int (fM_isIn v1 (0 : Int32) (2 : Int32)))) w [.int v1, .int (0 : Int32), .int (2 : Int32)] [] dM_isSeenPair_3 rfl (fun _ hK2 => mM_isIn (d - 1) (by omega) rfl hK2) kM_48 (x_rm (Nat.le_trans (by decide) hd) (by decide)) ⟨Nat.zero_le _, Nat.zero_le _⟩ (Nat.le_of_ble_eq_true rfl) rfl ?_
  by_cases c1 : (fM_isIn v1 (0 : Int32) (2 : Int32)) = (0 : Int32)
  · rw [if_pos c1] at h
    refine g_if_eq_t 49 dM_isSeenPair_6 (by decide) c1 ?_
    refine g_iconst 50 (0 : Int32) dM_isSeenPair_49 rfl (by decide) ?_
    obtain rfl := Option.some.inj h
    exact g_zret rfl (by decide) dM_isSeenPair_50 hK
  · rw [if_neg c1] at h
    refine g_if_eq_f 9 49 dM_isSeenPair_6 (by decide) rfl c1 ?_
    refine g_aload_n 10 (i := 0) dM_isSeenPair_9 rfl rfl rfl ?_
    refine g_iload_n 11 (i := 2) dM_isSeenPair_10 rfl rfl rfl ?_
    refine g_iload_n 12 (i := 3) dM_isSeenPair_11 rfl rfl rfl ?_
    refine g_iconst 13 (0 : Int32) dM_isSeenPair_12 rfl (by decide) ?_
    obtain ⟨_, e2, h⟩ := x_bind h
    obtain ⟨t3, e3, h⟩ := x_bind h
    refine g_cV 16 (some (.int t3)) w [.int v2, .int v3, .int (0 : Int32)] [] dM_isSeenPair_13 rfl (fun _ hK2 => mM_isPair (d - 1) (by omega) e3 hK2) (x_ob_some e2) kM_90 (x_rm (Nat.le_trans (by decide) hd) (by decide)) ⟨Nat.zero_le _, Nat.zero_le _⟩ (Nat.le_of_ble_eq_true rfl) rfl ?_
    by_cases c4 : t3 = (0 : Int32)
    · rw [if_pos c4] at h
      refine g_if_eq_t 49 dM_isSeenPair_16 (by decide) c4 ?_
      refine g_iconst 50 (0 : Int32) dM_isSeenPair_49 rfl (by decide) ?_
      obtain rfl := Option.some.inj h
      exact g_zret rfl (by decide) dM_isSeenPair_50 hK
    · rw [if_neg c4] at h
      refine g_if_eq_f 19 49 dM_isSeenPair_16 (by decide) rfl c4 ?_
      refine g_aload_n 20 (i := 0) dM_isSeenPair_19 rfl rfl rfl ?_
      obtain ⟨t5, e5, h⟩ := x_bind h
      refine g_getfR 23 5 3 dM_isSeenPair_20 rfl x_in5 tw_2_238 rfl (by decide) e5 ?_
      refine g_iconst 24 (0 : Int32) dM_isSeenPair_23 rfl (by decide) ?_
      obtain ⟨t6, e6, h⟩ := x_bind h
      refine g_iald 25 dM_isSeenPair_24 rfl e6 ?_
      refine g_iload_n 26 (i := 2) dM_isSeenPair_25 rfl rfl rfl ?_
      refine g_cS 29 (some (.int (fM_has t6 v2))) w [.int t6, .int v2] [] dM_isSeenPair_26 rfl (fun _ hK2 => mM_has (d - 1) (by omega) rfl hK2) kM_62 (x_rm (Nat.le_trans (by decide) hd) (by decide)) ⟨Nat.zero_le _, Nat.zero_le _⟩ (Nat.le_of_ble_eq_true rfl) rfl ?_
      by_cases c7 : (fM_has t6 v2) = (0 : Int32)
      · rw [if_pos c7] at h
        refine g_if_ne_f 32 49 dM_isSeenPair_29 (by decide) rfl c7 ?_
        refine g_aload_n 33 (i := 0) dM_isSeenPair_32 rfl rfl rfl ?_
        refine g_getfR 36 5 3 dM_isSeenPair_33 rfl x_in5 tw_2_238 rfl (by decide) e5 ?_
        refine g_iconst 37 (0 : Int32) dM_isSeenPair_36 rfl (by decide) ?_
        refine g_iald 38 dM_isSeenPair_37 rfl e6 ?_
        refine g_iload_n 39 (i := 3) dM_isSeenPair_38 rfl rfl rfl ?_
        refine g_cS 42 (some (.int (fM_has t6 v3))) w [.int t6, .int v3] [] dM_isSeenPair_39 rfl (fun _ hK2 => mM_has (d - 1) (by omega) rfl hK2) kM_62 (x_rm (Nat.le_trans (by decide) hd) (by decide)) ⟨Nat.zero_le _, Nat.zero_le _⟩ (Nat.le_of_ble_eq_true rfl) rfl ?_
        by_cases c8 : (fM_has t6 v3) = (0 : Int32)
        · rw [if_pos c8] at h
          refine g_if_ne_f 45 49 dM_isSeenPair_42 (by decide) rfl c8 ?_
          refine g_iconst 46 (1 : Int32) dM_isSeenPair_45 rfl (by decide) ?_
          refine g_goto 50 dM_isSeenPair_46 (by decide) ?_
          obtain rfl := Option.some.inj h
          exact g_zret rfl (by decide) dM_isSeenPair_50 hK
        · rw [if_neg c8] at h
          refine g_if_ne_t 49 dM_isSeenPair_42 (by decide) c8 ?_
          refine g_iconst 50 (0 : Int32) dM_isSeenPair_49 rfl (by decide) ?_
          obtain rfl := Option.some.inj h
          exact g_zret rfl (by decide) dM_isSeenPair_50 hK
      · rw [if_neg c7] at h
        refine g_if_ne_t 49 dM_isSeenPair_29 (by decide) c7 ?_
        refine g_iconst 50 (0 : Int32) dM_isSeenPair_49 rfl (by decide) ?_
        obtain rfl := Option.some.inj h
        exact g_zret rfl (by decide) dM_isSeenPair_50 hK
/-! ActSurgeryModel.isSeenSet(III)Z: level P -/
theorem dM_isSeenSet_0 : decode cM_isSeenSet 0 = .ok (.aload_n 0, 1) := by decide +kernel
theorem dM_isSeenSet_1 : decode cM_isSeenSet 1 = .ok (.iload_n 3, 1) := by decide +kernel
theorem dM_isSeenSet_2 : decode cM_isSeenSet 2 = .ok (.invokevirtual 59, 3) := by decide +kernel
theorem dM_isSeenSet_5 : decode cM_isSeenSet 5 = .ok (.ifCond .eq 34, 3) := by decide +kernel
theorem dM_isSeenSet_8 : decode cM_isSeenSet 8 = .ok (.iload_n 3, 1) := by decide +kernel
theorem dM_isSeenSet_9 : decode cM_isSeenSet 9 = .ok (.aload_n 0, 1) := by decide +kernel
theorem dM_isSeenSet_10 : decode cM_isSeenSet 10 = .ok (.getfield 19, 3) := by decide +kernel
theorem dM_isSeenSet_13 : decode cM_isSeenSet 13 = .ok (.iconst 0, 1) := by decide +kernel
theorem dM_isSeenSet_14 : decode cM_isSeenSet 14 = .ok (.iaload, 1) := by decide +kernel
theorem dM_isSeenSet_15 : decode cM_isSeenSet 15 = .ok (.iand, 1) := by decide +kernel
theorem dM_isSeenSet_16 : decode cM_isSeenSet 16 = .ok (.ifCond .ne 23, 3) := by decide +kernel
theorem dM_isSeenSet_19 : decode cM_isSeenSet 19 = .ok (.iload_n 3, 1) := by decide +kernel
theorem dM_isSeenSet_20 : decode cM_isSeenSet 20 = .ok (.iload_n 1, 1) := by decide +kernel
theorem dM_isSeenSet_21 : decode cM_isSeenSet 21 = .ok (.invokestatic 62, 3) := by decide +kernel
theorem dM_isSeenSet_24 : decode cM_isSeenSet 24 = .ok (.ifCond .ne 15, 3) := by decide +kernel
theorem dM_isSeenSet_27 : decode cM_isSeenSet 27 = .ok (.iload_n 3, 1) := by decide +kernel
theorem dM_isSeenSet_28 : decode cM_isSeenSet 28 = .ok (.iload_n 2, 1) := by decide +kernel
theorem dM_isSeenSet_29 : decode cM_isSeenSet 29 = .ok (.invokestatic 62, 3) := by decide +kernel
theorem dM_isSeenSet_32 : decode cM_isSeenSet 32 = .ok (.ifCond .ne 7, 3) := by decide +kernel
theorem dM_isSeenSet_35 : decode cM_isSeenSet 35 = .ok (.iconst 1, 1) := by decide +kernel
theorem dM_isSeenSet_36 : decode cM_isSeenSet 36 = .ok (.goto 4, 3) := by decide +kernel
theorem dM_isSeenSet_39 : decode cM_isSeenSet 39 = .ok (.iconst 0, 1) := by decide +kernel
theorem dM_isSeenSet_40 : decode cM_isSeenSet 40 = .ok (.ireturn, 1) := by decide +kernel
def fM_isSeenSet (w : x_W) (v0 : Nat) (v1 : Int32) (v2 : Int32) (v3 : Int32) : Option Int32 :=
  (x_ob w v0 5).bind fun _ =>
  (fM_isSet w v0 v3).bind fun t2 =>
  if t2 = (0 : Int32) then
    some (0 : Int32)
  else
    (x_fr w v0 5 3).bind fun t4 =>
    (x_ai w t4 (0 : Int32)).bind fun t5 =>
    if (v3 &&& t5) = (0 : Int32) then
      if (fM_has v3 v1) = (0 : Int32) then
        if (fM_has v3 v2) = (0 : Int32) then
          some (1 : Int32)
        else
          some (0 : Int32)
      else
        some (0 : Int32)
    else
      some (0 : Int32)
set_option maxHeartbeats 4000000 in
set_option maxRecDepth 100000 in
theorem mM_isSeenSet (d : Nat) (hd : 4 ≤ d) {K : Option Value → x_W → Prop} {w : x_W} {v0 : Nat} {v1 : Int32} {v2 : Int32} {v3 : Int32} {r : Int32} (h : fM_isSeenSet w v0 v1 v2 v3 = some r) (hK : K (some (.int r)) w) : x_M yM_isSeenSet cM_isSeenSet 4 (some .boolean) d 0 0 [.ref v0, .int v1, .int v2, .int v3] w K := by
  refine x_M.of [some (.ref v0), some (.int v1), some (.int v2), some (.int v3)] (by decide) rfl (Nat.le_of_ble_eq_true rfl) ?_
  unfold fM_isSeenSet at h
  refine g_aload_n 1 (i := 0) dM_isSeenSet_0 rfl rfl rfl ?_
  refine g_iload_n 2 (i := 3) dM_isSeenSet_1 rfl rfl rfl ?_
  obtain ⟨_, e1, h⟩ := x_bind h
  obtain ⟨t2, e2, h⟩ := x_bind h
  refine g_cV 5 (some (.int t2)) w [.int v3] [] dM_isSeenSet_2 rfl (fun _ hK2 => mM_isSet (d - 1) (by omega) e2 hK2) (x_ob_some e1) kM_59 (x_rm (Nat.le_trans (by decide) hd) (by decide)) ⟨Nat.zero_le _, Nat.zero_le _⟩ (Nat.le_of_ble_eq_true rfl) rfl ?_
  by_cases c3 : t2 = (0 : Int32)
  · rw [if_pos c3] at h
    refine g_if_eq_t 39 dM_isSeenSet_5 (by decide) c3 ?_
    refine g_iconst 40 (0 : Int32) dM_isSeenSet_39 rfl (by decide) ?_
    obtain rfl := Option.some.inj h
    exact g_zret rfl (by decide) dM_isSeenSet_40 hK
  · rw [if_neg c3] at h
    refine g_if_eq_f 8 39 dM_isSeenSet_5 (by decide) rfl c3 ?_
    refine g_iload_n 9 (i := 3) dM_isSeenSet_8 rfl rfl rfl ?_
    refine g_aload_n 10 (i := 0) dM_isSeenSet_9 rfl rfl rfl ?_
    obtain ⟨t4, e4, h⟩ := x_bind h
    refine g_getfR 13 5 3 dM_isSeenSet_10 rfl x_in5 tw_2_238 rfl (by decide) e4 ?_
    refine g_iconst 14 (0 : Int32) dM_isSeenSet_13 rfl (by decide) ?_
    obtain ⟨t5, e5, h⟩ := x_bind h
    refine g_iald 15 dM_isSeenSet_14 rfl e5 ?_
    refine g_iand 16 dM_isSeenSet_15 rfl ?_
    by_cases c6 : (v3 &&& t5) = (0 : Int32)
    · rw [if_pos c6] at h
      refine g_if_ne_f 19 39 dM_isSeenSet_16 (by decide) rfl c6 ?_
      refine g_iload_n 20 (i := 3) dM_isSeenSet_19 rfl rfl rfl ?_
      refine g_iload_n 21 (i := 1) dM_isSeenSet_20 rfl rfl rfl ?_
      refine g_cS 24 (some (.int (fM_has v3 v1))) w [.int v3, .int v1] [] dM_isSeenSet_21 rfl (fun _ hK2 => mM_has (d - 1) (by omega) rfl hK2) kM_62 (x_rm (Nat.le_trans (by decide) hd) (by decide)) ⟨Nat.zero_le _, Nat.zero_le _⟩ (Nat.le_of_ble_eq_true rfl) rfl ?_
      by_cases c7 : (fM_has v3 v1) = (0 : Int32)
      · rw [if_pos c7] at h
        refine g_if_ne_f 27 39 dM_isSeenSet_24 (by decide) rfl c7 ?_
        refine g_iload_n 28 (i := 3) dM_isSeenSet_27 rfl rfl rfl ?_
        refine g_iload_n 29 (i := 2) dM_isSeenSet_28 rfl rfl rfl ?_
        refine g_cS 32 (some (.int (fM_has v3 v2))) w [.int v3, .int v2] [] dM_isSeenSet_29 rfl (fun _ hK2 => mM_has (d - 1) (by omega) rfl hK2) kM_62 (x_rm (Nat.le_trans (by decide) hd) (by decide)) ⟨Nat.zero_le _, Nat.zero_le _⟩ (Nat.le_of_ble_eq_true rfl) rfl ?_
        by_cases c8 : (fM_has v3 v2) = (0 : Int32)
        · rw [if_pos c8] at h
          refine g_if_ne_f 35 39 dM_isSeenSet_32 (by decide) rfl c8 ?_
          refine g_iconst 36 (1 : Int32) dM_isSeenSet_35 rfl (by decide) ?_
          refine g_goto 40 dM_isSeenSet_36 (by decide) ?_
          obtain rfl := Option.some.inj h
          exact g_zret rfl (by decide) dM_isSeenSet_40 hK
        · rw [if_neg c8] at h
          refine g_if_ne_t 39 dM_isSeenSet_32 (by decide) c8 ?_
          refine g_iconst 40 (0 : Int32) dM_isSeenSet_39 rfl (by decide) ?_
          obtain rfl := Option.some.inj h
          exact g_zret rfl (by decide) dM_isSeenSet_40 hK
      · rw [if_neg c7] at h
        refine g_if_ne_t 39 dM_isSeenSet_24 (by decide) c7 ?_
        refine g_iconst 40 (0 : Int32) dM_isSeenSet_39 rfl (by decide) ?_
        obtain rfl := Option.some.inj h
        exact g_zret rfl (by decide) dM_isSeenSet_40 hK
    · rw [if_neg c6] at h
      refine g_if_ne_t 39 dM_isSeenSet_16 (by decide) c6 ?_
      refine g_iconst 40 (0 : Int32) dM_isSeenSet_39 rfl (by decide) ?_
      obtain rfl := Option.some.inj h
      exact g_zret rfl (by decide) dM_isSeenSet_40 hK
/-! ActSurgeryModel.tells(IIII)I: level X -/
theorem dM_tells_0 : decode cM_tells 0 = .ok (.aload_n 0, 1) := by decide +kernel
theorem dM_tells_1 : decode cM_tells 1 = .ok (.iload_n 1, 1) := by decide +kernel
theorem dM_tells_2 : decode cM_tells 2 = .ok (.iload_n 2, 1) := by decide +kernel
theorem dM_tells_3 : decode cM_tells 3 = .ok (.iload_n 3, 1) := by decide +kernel
theorem dM_tells_4 : decode cM_tells 4 = .ok (.invokevirtual 115, 3) := by decide +kernel
theorem dM_tells_7 : decode cM_tells 7 = .ok (.ifCond .eq 28, 3) := by decide +kernel
theorem dM_tells_10 : decode cM_tells 10 = .ok (.aload_n 0, 1) := by decide +kernel
theorem dM_tells_11 : decode cM_tells 11 = .ok (.iload_n 2, 1) := by decide +kernel
theorem dM_tells_12 : decode cM_tells 12 = .ok (.iload_n 3, 1) := by decide +kernel
theorem dM_tells_13 : decode cM_tells 13 = .ok (.iload 4, 2) := by decide +kernel
theorem dM_tells_15 : decode cM_tells 15 = .ok (.invokevirtual 118, 3) := by decide +kernel
theorem dM_tells_18 : decode cM_tells 18 = .ok (.ifCond .eq 17, 3) := by decide +kernel
theorem dM_tells_21 : decode cM_tells 21 = .ok (.iload_n 1, 1) := by decide +kernel
theorem dM_tells_22 : decode cM_tells 22 = .ok (.iconst 2, 1) := by decide +kernel
theorem dM_tells_23 : decode cM_tells 23 = .ok (.if_icmp .ne 15, 3) := by decide +kernel
theorem dM_tells_26 : decode cM_tells 26 = .ok (.iload 4, 2) := by decide +kernel
theorem dM_tells_28 : decode cM_tells 28 = .ok (.invokestatic 97, 3) := by decide +kernel
theorem dM_tells_31 : decode cM_tells 31 = .ok (.iconst 1, 1) := by decide +kernel
theorem dM_tells_32 : decode cM_tells 32 = .ok (.if_icmp .eq 6, 3) := by decide +kernel
theorem dM_tells_35 : decode cM_tells 35 = .ok (.bipush (-2), 2) := by decide +kernel
theorem dM_tells_37 : decode cM_tells 37 = .ok (.ireturn, 1) := by decide +kernel
theorem dM_tells_38 : decode cM_tells 38 = .ok (.aload_n 0, 1) := by decide +kernel
theorem dM_tells_39 : decode cM_tells 39 = .ok (.iload_n 1, 1) := by decide +kernel
theorem dM_tells_40 : decode cM_tells 40 = .ok (.iload_n 2, 1) := by decide +kernel
theorem dM_tells_41 : decode cM_tells 41 = .ok (.iload_n 3, 1) := by decide +kernel
theorem dM_tells_42 : decode cM_tells 42 = .ok (.iload 4, 2) := by decide +kernel
theorem dM_tells_44 : decode cM_tells 44 = .ok (.invokevirtual 121, 3) := by decide +kernel
theorem dM_tells_47 : decode cM_tells 47 = .ok (.ifCond .eq 7, 3) := by decide +kernel
theorem dM_tells_50 : decode cM_tells 50 = .ok (.iconst 1, 1) := by decide +kernel
theorem dM_tells_51 : decode cM_tells 51 = .ok (.goto 4, 3) := by decide +kernel
theorem dM_tells_54 : decode cM_tells 54 = .ok (.iconst 0, 1) := by decide +kernel
theorem dM_tells_55 : decode cM_tells 55 = .ok (.ireturn, 1) := by decide +kernel
theorem tw_3_127 : (Jvm.Cond.instanceMethod ({ cls := "ActSurgeryModel", name := "isSeenPair", desc := "(III)Z" } : Jvm.MethodName)) ∈ x_GT := x_t3 127 rfl rfl
theorem tws_42 : (Jvm.Cond.selects "ActSurgeryModel" ({ cls := "ActSurgeryModel", name := "isSeenPair", desc := "(III)Z" } : Jvm.MethodName) ({ cls := "ActSurgeryModel", name := "isSeenPair", desc := "(III)Z" } : Jvm.MethodName)) ∈ x_GT := x_ts 42 rfl rfl
theorem tw_3_128 : (Jvm.Cond.code ({ cls := "ActSurgeryModel", name := "isSeenPair", desc := "(III)Z" } : Jvm.MethodName) prog_7_method_32_code (4 : Nat) (Option.some Jvm.ClassFile.FieldType.boolean)) ∈ x_GT := x_t3 128 rfl rfl
theorem tw_3_125 : (Jvm.Cond.methodLink "ActSurgeryModel" (115 : Nat) ({ cls := "ActSurgeryModel", name := "isSeenPair", desc := "(III)Z" } : Jvm.MethodName)) ∈ x_GT := x_t3 125 rfl rfl
theorem kM_115 : x_kV "ActSurgeryModel" 115 yM_isSeenPair cM_isSeenPair 4 (some .boolean) 3 5 := ⟨tw_3_127, tws_42, tw_3_128, tw_1_6, tw_3_125, (by decide +kernel), rfl⟩
theorem tw_3_131 : (Jvm.Cond.instanceMethod ({ cls := "ActSurgeryModel", name := "isSeenSet", desc := "(III)Z" } : Jvm.MethodName)) ∈ x_GT := x_t3 131 rfl rfl
theorem tws_43 : (Jvm.Cond.selects "ActSurgeryModel" ({ cls := "ActSurgeryModel", name := "isSeenSet", desc := "(III)Z" } : Jvm.MethodName) ({ cls := "ActSurgeryModel", name := "isSeenSet", desc := "(III)Z" } : Jvm.MethodName)) ∈ x_GT := x_ts 43 rfl rfl
theorem tw_3_132 : (Jvm.Cond.code ({ cls := "ActSurgeryModel", name := "isSeenSet", desc := "(III)Z" } : Jvm.MethodName) prog_7_method_33_code (4 : Nat) (Option.some Jvm.ClassFile.FieldType.boolean)) ∈ x_GT := x_t3 132 rfl rfl
theorem tw_3_129 : (Jvm.Cond.methodLink "ActSurgeryModel" (118 : Nat) ({ cls := "ActSurgeryModel", name := "isSeenSet", desc := "(III)Z" } : Jvm.MethodName)) ∈ x_GT := x_t3 129 rfl rfl
theorem kM_118 : x_kV "ActSurgeryModel" 118 yM_isSeenSet cM_isSeenSet 4 (some .boolean) 3 5 := ⟨tw_3_131, tws_43, tw_3_132, tw_1_6, tw_3_129, (by decide +kernel), rfl⟩
theorem tw_3_135 : (Jvm.Cond.instanceMethod ({ cls := "ActSurgeryModel", name := "isTelling", desc := "(IIII)Z" } : Jvm.MethodName)) ∈ x_GT := x_t3 135 rfl rfl
theorem tws_44 : (Jvm.Cond.selects "ActSurgeryModel" ({ cls := "ActSurgeryModel", name := "isTelling", desc := "(IIII)Z" } : Jvm.MethodName) ({ cls := "ActSurgeryModel", name := "isTelling", desc := "(IIII)Z" } : Jvm.MethodName)) ∈ x_GT := x_ts 44 rfl rfl
theorem tw_3_136 : (Jvm.Cond.code ({ cls := "ActSurgeryModel", name := "isTelling", desc := "(IIII)Z" } : Jvm.MethodName) prog_7_method_31_code (5 : Nat) (Option.some Jvm.ClassFile.FieldType.boolean)) ∈ x_GT := x_t3 136 rfl rfl
theorem tw_3_133 : (Jvm.Cond.methodLink "ActSurgeryModel" (121 : Nat) ({ cls := "ActSurgeryModel", name := "isTelling", desc := "(IIII)Z" } : Jvm.MethodName)) ∈ x_GT := x_t3 133 rfl rfl
theorem kM_121 : x_kV "ActSurgeryModel" 121 yM_isTelling cM_isTelling 5 (some .boolean) 4 5 := ⟨tw_3_135, tws_44, tw_3_136, tw_1_6, tw_3_133, (by decide +kernel), rfl⟩
def fM_tells  (w : x_W) (v0 : Nat) (v1 : Int32) (v2 : Int32) (v3 : Int32) (v4 : Int32) : Option (Int32 × x_W) :=
  (x_ob w v0 5).bind fun _ =>
  (fM_isSeenPair w v0 v1 v2 v3).bind fun t2 =>
  if t2 = (0 : Int32) then
    some ((-2 : Int32), w)
  else
    (fM_isSeenSet w v0 v2 v3 v4).bind fun t4 =>
    if t4 = (0 : Int32) then
      some ((-2 : Int32), w)
    else
      if v1 = (2 : Int32) then
        (fM_ones v4).bind fun t7 =>
        if t7 = (1 : Int32) then
          (fM_isTelling w v0 v1 v2 v3 v4).bind fun q9 =>
          if q9.1 = (0 : Int32) then
            some ((0 : Int32), q9.2)
          else
            some ((1 : Int32), q9.2)
        else
          some ((-2 : Int32), w)
      else
        (fM_isTelling w v0 v1 v2 v3 v4).bind fun q11 =>
        if q11.1 = (0 : Int32) then
          some ((0 : Int32), q11.2)
        else
          some ((1 : Int32), q11.2)
set_option maxHeartbeats 4000000 in
set_option maxRecDepth 100000 in
theorem mM_tells (d : Nat) (hd : 10 ≤ d) {K : Option Value → x_W → Prop} {w : x_W} {v0 : Nat} {v1 : Int32} {v2 : Int32} {v3 : Int32} {v4 : Int32} {r : (Int32 × x_W)} (h : fM_tells w v0 v1 v2 v3 v4 = some r) (hK : K (some (.int r.1)) r.2) : x_M yM_tells cM_tells 5 (some .int) d 0 0 [.ref v0, .int v1, .int v2, .int v3, .int v4] w K := by
  refine x_M.of [some (.ref v0), some (.int v1), some (.int v2), some (.int v3), some (.int v4)] (by decide) rfl (Nat.le_of_ble_eq_true rfl) ?_
  unfold fM_tells at h
  refine g_aload_n 1 (i := 0) dM_tells_0 rfl rfl rfl ?_
  refine g_iload_n 2 (i := 1) dM_tells_1 rfl rfl rfl ?_
  refine g_iload_n 3 (i := 2) dM_tells_2 rfl rfl rfl ?_
  refine g_iload_n 4 (i := 3) dM_tells_3 rfl rfl rfl ?_
  obtain ⟨_, e1, h⟩ := x_bind h
  obtain ⟨t2, e2, h⟩ := x_bind h
  refine g_cV 7 (some (.int t2)) w [.int v1, .int v2, .int v3] [] dM_tells_4 rfl (fun _ hK2 => mM_isSeenPair (d - 1) (by omega) e2 hK2) (x_ob_some e1) kM_115 (x_rm (Nat.le_trans (by decide) hd) (by decide)) ⟨Nat.zero_le _, Nat.zero_le _⟩ (Nat.le_of_ble_eq_true rfl) rfl ?_
  by_cases c3 : t2 = (0 : Int32)
  · rw [if_pos c3] at h
    refine g_if_eq_t 35 dM_tells_7 (by decide) c3 ?_
    refine g_bipush 37 (-2 : Int32) dM_tells_35 rfl (by decide) ?_
    obtain rfl := Option.some.inj h
    exact g_iret rfl dM_tells_37 hK
  · rw [if_neg c3] at h
    refine g_if_eq_f 10 35 dM_tells_7 (by decide) rfl c3 ?_
    refine g_aload_n 11 (i := 0) dM_tells_10 rfl rfl rfl ?_
    refine g_iload_n 12 (i := 2) dM_tells_11 rfl rfl rfl ?_
    refine g_iload_n 13 (i := 3) dM_tells_12 rfl rfl rfl ?_
    refine g_iload 15 dM_tells_13 rfl rfl ?_
    obtain ⟨t4, e4, h⟩ := x_bind h
    refine g_cV 18 (some (.int t4)) w [.int v2, .int v3, .int v4] [] dM_tells_15 rfl (fun _ hK2 => mM_isSeenSet (d - 1) (by omega) e4 hK2) (x_ob_some e1) kM_118 (x_rm (Nat.le_trans (by decide) hd) (by decide)) ⟨Nat.zero_le _, Nat.zero_le _⟩ (Nat.le_of_ble_eq_true rfl) rfl ?_
    by_cases c5 : t4 = (0 : Int32)
    · rw [if_pos c5] at h
      refine g_if_eq_t 35 dM_tells_18 (by decide) c5 ?_
      refine g_bipush 37 (-2 : Int32) dM_tells_35 rfl (by decide) ?_
      obtain rfl := Option.some.inj h
      exact g_iret rfl dM_tells_37 hK
    · rw [if_neg c5] at h
      refine g_if_eq_f 21 35 dM_tells_18 (by decide) rfl c5 ?_
      refine g_iload_n 22 (i := 1) dM_tells_21 rfl rfl rfl ?_
      refine g_iconst 23 (2 : Int32) dM_tells_22 rfl (by decide) ?_
      by_cases c6 : v1 = (2 : Int32)
      · rw [if_pos c6] at h
        refine g_icmp_ne_f 26 38 dM_tells_23 (by decide) rfl c6 ?_
        refine g_iload 28 dM_tells_26 rfl rfl ?_
        obtain ⟨t7, e7, h⟩ := x_bind h
        refine g_cS 31 (some (.int t7)) w [.int v4] [] dM_tells_28 rfl (fun _ hK2 => mM_ones (d - 1) (by omega) e7 hK2) kM_97 (x_rm (Nat.le_trans (by decide) hd) (by decide)) ⟨Nat.zero_le _, Nat.zero_le _⟩ (Nat.le_of_ble_eq_true rfl) rfl ?_
        refine g_iconst 32 (1 : Int32) dM_tells_31 rfl (by decide) ?_
        by_cases c8 : t7 = (1 : Int32)
        · rw [if_pos c8] at h
          refine g_icmp_eq_t 38 dM_tells_32 (by decide) c8 ?_
          refine g_aload_n 39 (i := 0) dM_tells_38 rfl rfl rfl ?_
          refine g_iload_n 40 (i := 1) dM_tells_39 rfl rfl rfl ?_
          refine g_iload_n 41 (i := 2) dM_tells_40 rfl rfl rfl ?_
          refine g_iload_n 42 (i := 3) dM_tells_41 rfl rfl rfl ?_
          refine g_iload 44 dM_tells_42 rfl rfl ?_
          obtain ⟨q9, e9, h⟩ := x_bind h
          refine g_cV 47 (some (.int q9.1)) q9.2 [.int v1, .int v2, .int v3, .int v4] [] dM_tells_44 rfl (fun _ hK2 => mM_isTelling (d - 1) (by omega) e9 hK2) (x_ob_some e1) kM_121 (x_rm (Nat.le_trans (by decide) hd) (by decide)) ⟨Nat.zero_le _, Nat.zero_le _⟩ (Nat.le_of_ble_eq_true rfl) rfl ?_
          by_cases c10 : q9.1 = (0 : Int32)
          · rw [if_pos c10] at h
            refine g_if_eq_t 54 dM_tells_47 (by decide) c10 ?_
            refine g_iconst 55 (0 : Int32) dM_tells_54 rfl (by decide) ?_
            obtain rfl := Option.some.inj h
            exact g_iret rfl dM_tells_55 hK
          · rw [if_neg c10] at h
            refine g_if_eq_f 50 54 dM_tells_47 (by decide) rfl c10 ?_
            refine g_iconst 51 (1 : Int32) dM_tells_50 rfl (by decide) ?_
            refine g_goto 55 dM_tells_51 (by decide) ?_
            obtain rfl := Option.some.inj h
            exact g_iret rfl dM_tells_55 hK
        · rw [if_neg c8] at h
          refine g_icmp_eq_f 35 38 dM_tells_32 (by decide) rfl c8 ?_
          refine g_bipush 37 (-2 : Int32) dM_tells_35 rfl (by decide) ?_
          obtain rfl := Option.some.inj h
          exact g_iret rfl dM_tells_37 hK
      · rw [if_neg c6] at h
        refine g_icmp_ne_t 38 dM_tells_23 (by decide) c6 ?_
        refine g_aload_n 39 (i := 0) dM_tells_38 rfl rfl rfl ?_
        refine g_iload_n 40 (i := 1) dM_tells_39 rfl rfl rfl ?_
        refine g_iload_n 41 (i := 2) dM_tells_40 rfl rfl rfl ?_
        refine g_iload_n 42 (i := 3) dM_tells_41 rfl rfl rfl ?_
        refine g_iload 44 dM_tells_42 rfl rfl ?_
        obtain ⟨q11, e11, h⟩ := x_bind h
        refine g_cV 47 (some (.int q11.1)) q11.2 [.int v1, .int v2, .int v3, .int v4] [] dM_tells_44 rfl (fun _ hK2 => mM_isTelling (d - 1) (by omega) e11 hK2) (x_ob_some e1) kM_121 (x_rm (Nat.le_trans (by decide) hd) (by decide)) ⟨Nat.zero_le _, Nat.zero_le _⟩ (Nat.le_of_ble_eq_true rfl) rfl ?_
        by_cases c12 : q11.1 = (0 : Int32)
        · rw [if_pos c12] at h
          refine g_if_eq_t 54 dM_tells_47 (by decide) c12 ?_
          refine g_iconst 55 (0 : Int32) dM_tells_54 rfl (by decide) ?_
          obtain rfl := Option.some.inj h
          exact g_iret rfl dM_tells_55 hK
        · rw [if_neg c12] at h
          refine g_if_eq_f 50 54 dM_tells_47 (by decide) rfl c12 ?_
          refine g_iconst 51 (1 : Int32) dM_tells_50 rfl (by decide) ?_
          refine g_goto 55 dM_tells_51 (by decide) ?_
          obtain rfl := Option.some.inj h
          exact g_iret rfl dM_tells_55 hK
