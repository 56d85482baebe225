/-! ActSurgeryModel.keep()I: level X -/
theorem dM_keep_0 : decode cM_keep 0 = .ok (.aload_n 0, 1) := by decide +kernel
theorem dM_keep_1 : decode cM_keep 1 = .ok (.getfield 7, 3) := by decide +kernel
theorem dM_keep_4 : decode cM_keep 4 = .ok (.iconst 1, 1) := by decide +kernel
theorem dM_keep_5 : decode cM_keep 5 = .ok (.aload_n 0, 1) := by decide +kernel
theorem dM_keep_6 : decode cM_keep 6 = .ok (.getfield 7, 3) := by decide +kernel
theorem dM_keep_9 : decode cM_keep 9 = .ok (.iconst 0, 1) := by decide +kernel
theorem dM_keep_10 : decode cM_keep 10 = .ok (.iaload, 1) := by decide +kernel
theorem dM_keep_11 : decode cM_keep 11 = .ok (.iastore, 1) := by decide +kernel
theorem dM_keep_12 : decode cM_keep 12 = .ok (.aload_n 0, 1) := by decide +kernel
theorem dM_keep_13 : decode cM_keep 13 = .ok (.getfield 19, 3) := by decide +kernel
theorem dM_keep_16 : decode cM_keep 16 = .ok (.iconst 1, 1) := by decide +kernel
theorem dM_keep_17 : decode cM_keep 17 = .ok (.aload_n 0, 1) := by decide +kernel
theorem dM_keep_18 : decode cM_keep 18 = .ok (.getfield 19, 3) := by decide +kernel
theorem dM_keep_21 : decode cM_keep 21 = .ok (.iconst 0, 1) := by decide +kernel
theorem dM_keep_22 : decode cM_keep 22 = .ok (.iaload, 1) := by decide +kernel
theorem dM_keep_23 : decode cM_keep 23 = .ok (.iastore, 1) := by decide +kernel
theorem dM_keep_24 : decode cM_keep 24 = .ok (.iconst 0, 1) := by decide +kernel
theorem dM_keep_25 : decode cM_keep 25 = .ok (.istore_n 1, 1) := by decide +kernel
theorem dM_keep_26 : decode cM_keep 26 = .ok (.iload_n 1, 1) := by decide +kernel
theorem dM_keep_27 : decode cM_keep 27 = .ok (.bipush 6, 2) := by decide +kernel
theorem dM_keep_29 : decode cM_keep 29 = .ok (.if_icmp .ge 24, 3) := by decide +kernel
theorem dM_keep_32 : decode cM_keep 32 = .ok (.aload_n 0, 1) := by decide +kernel
theorem dM_keep_33 : decode cM_keep 33 = .ok (.getfield 13, 3) := by decide +kernel
theorem dM_keep_36 : decode cM_keep 36 = .ok (.bipush 6, 2) := by decide +kernel
theorem dM_keep_38 : decode cM_keep 38 = .ok (.iload_n 1, 1) := by decide +kernel
theorem dM_keep_39 : decode cM_keep 39 = .ok (.iadd, 1) := by decide +kernel
theorem dM_keep_40 : decode cM_keep 40 = .ok (.aload_n 0, 1) := by decide +kernel
theorem dM_keep_41 : decode cM_keep 41 = .ok (.getfield 13, 3) := by decide +kernel
theorem dM_keep_44 : decode cM_keep 44 = .ok (.iload_n 1, 1) := by decide +kernel
theorem dM_keep_45 : decode cM_keep 45 = .ok (.iaload, 1) := by decide +kernel
theorem dM_keep_46 : decode cM_keep 46 = .ok (.iastore, 1) := by decide +kernel
theorem dM_keep_47 : decode cM_keep 47 = .ok (.iinc 1 1, 3) := by decide +kernel
theorem dM_keep_50 : decode cM_keep 50 = .ok (.goto (-24), 3) := by decide +kernel
theorem dM_keep_53 : decode cM_keep 53 = .ok (.iconst 0, 1) := by decide +kernel
theorem dM_keep_54 : decode cM_keep 54 = .ok (.istore_n 1, 1) := by decide +kernel
theorem dM_keep_55 : decode cM_keep 55 = .ok (.iload_n 1, 1) := by decide +kernel
theorem dM_keep_56 : decode cM_keep 56 = .ok (.sipush 384, 3) := by decide +kernel
theorem dM_keep_59 : decode cM_keep 59 = .ok (.if_icmp .ge 25, 3) := by decide +kernel
theorem dM_keep_62 : decode cM_keep 62 = .ok (.aload_n 0, 1) := by decide +kernel
theorem dM_keep_63 : decode cM_keep 63 = .ok (.getfield 16, 3) := by decide +kernel
theorem dM_keep_66 : decode cM_keep 66 = .ok (.sipush 384, 3) := by decide +kernel
theorem dM_keep_69 : decode cM_keep 69 = .ok (.iload_n 1, 1) := by decide +kernel
theorem dM_keep_70 : decode cM_keep 70 = .ok (.iadd, 1) := by decide +kernel
theorem dM_keep_71 : decode cM_keep 71 = .ok (.aload_n 0, 1) := by decide +kernel
theorem dM_keep_72 : decode cM_keep 72 = .ok (.getfield 16, 3) := by decide +kernel
theorem dM_keep_75 : decode cM_keep 75 = .ok (.iload_n 1, 1) := by decide +kernel
theorem dM_keep_76 : decode cM_keep 76 = .ok (.iaload, 1) := by decide +kernel
theorem dM_keep_77 : decode cM_keep 77 = .ok (.iastore, 1) := by decide +kernel
theorem dM_keep_78 : decode cM_keep 78 = .ok (.iinc 1 1, 3) := by decide +kernel
theorem dM_keep_81 : decode cM_keep 81 = .ok (.goto (-26), 3) := by decide +kernel
theorem dM_keep_84 : decode cM_keep 84 = .ok (.aload_n 0, 1) := by decide +kernel
theorem dM_keep_85 : decode cM_keep 85 = .ok (.getfield 7, 3) := by decide +kernel
theorem dM_keep_88 : decode cM_keep 88 = .ok (.iconst 1, 1) := by decide +kernel
theorem dM_keep_89 : decode cM_keep 89 = .ok (.iaload, 1) := by decide +kernel
theorem dM_keep_90 : decode cM_keep 90 = .ok (.ireturn, 1) := by decide +kernel
def fM_keep_55  : Nat → x_W → Nat → Int32 → Option (Int32 × x_W)
  | 0, _, _, _ => none
  | n + 1, w, v0, v1 =>
    if (384 : Int32) ≤ v1 then
      (x_fr w v0 5 0).bind fun t2 =>
      (x_ai w t2 (1 : Int32)).bind fun t3 =>
      some (t3, w)
    else
      (x_fr w v0 5 2).bind fun t4 =>
      (x_ai w t4 v1).bind fun t5 =>
      (x_pa w t4 ((384 : Int32) + v1) t5).bind fun w6 =>
      fM_keep_55 n w6 v0 (v1 + (1 : Int32))
def fM_keep_26  : Nat → x_W → Nat → Int32 → Option (Int32 × x_W)
  | 0, _, _, _ => none
  | n + 1, w, v0, v1 =>
    if (6 : Int32) ≤ v1 then
      fM_keep_55 x_F w v0 (0 : Int32)
    else
      (x_fr w v0 5 1).bind fun t2 =>
      (x_ai w t2 v1).bind fun t3 =>
      (x_pa w t2 ((6 : Int32) + v1) t3).bind fun w4 =>
      fM_keep_26 n w4 v0 (v1 + (1 : Int32))
def fM_keep  (w : x_W) (v0 : Nat) : Option (Int32 × x_W) :=
  (x_fr w v0 5 0).bind fun t1 =>
  (x_ai w t1 (0 : Int32)).bind fun t2 =>
  (x_pa w t1 (1 : Int32) t2).bind fun w3 =>
  (x_fr w3 v0 5 3).bind fun t4 =>
  (x_ai w3 t4 (0 : Int32)).bind fun t5 =>
  (x_pa w3 t4 (1 : Int32) t5).bind fun w6 =>
  fM_keep_26 x_F w6 v0 (0 : Int32)
set_option maxHeartbeats 4000000 in
set_option maxRecDepth 100000 in
theorem lM_keep_55 (d : Nat) (hd : 1 ≤ d) {K : Option Value → x_W → Prop} {r : (Int32 × x_W)} (hK : K (some (.int r.1)) r.2) : ∀ (n : Nat) (w : x_W) (v0 : Nat) (v1 : Int32), fM_keep_55 n w v0 v1 = some r → x_G none yM_keep cM_keep 2 (some .int) (x_room d 0 0) (x_QM K 0 0) 55 [some (.ref v0), some (.int v1)] [] w 0 0 := by
  intro n
  induction n with
  | zero => intro w v0 v1 h; rw [fM_keep_55] at h; cases h
  | succ n ih =>
    intro w v0 v1 h
    rw [fM_keep_55] at h
    refine g_iload_n 56 (i := 1) dM_keep_55 rfl rfl rfl ?_
    refine g_sipush 59 (384 : Int32) dM_keep_56 rfl (by decide) ?_
    by_cases c1 : (384 : Int32) ≤ v1
    · rw [if_pos c1] at h
      refine g_icmp_ge_t 84 dM_keep_59 (by decide) c1 ?_
      refine g_aload_n 85 (i := 0) dM_keep_84 rfl rfl rfl ?_
      obtain ⟨t2, e2, h⟩ := x_bind h
      refine g_getfR 88 5 0 dM_keep_85 rfl x_in5 tw_2_235 rfl (by decide) e2 ?_
      refine g_iconst 89 (1 : Int32) dM_keep_88 rfl (by decide) ?_
      obtain ⟨t3, e3, h⟩ := x_bind h
      refine g_iald 90 dM_keep_89 rfl e3 ?_
      obtain rfl := Option.some.inj h
      exact g_iret rfl dM_keep_90 hK
    · rw [if_neg c1] at h
      refine g_icmp_ge_f 62 84 dM_keep_59 (by decide) rfl c1 ?_
      refine g_aload_n 63 (i := 0) dM_keep_62 rfl rfl rfl ?_
      obtain ⟨t4, e4, h⟩ := x_bind h
      refine g_getfR 66 5 2 dM_keep_63 rfl x_in5 tw_2_237 rfl (by decide) e4 ?_
      refine g_sipush 69 (384 : Int32) dM_keep_66 rfl (by decide) ?_
      refine g_iload_n 70 (i := 1) dM_keep_69 rfl rfl rfl ?_
      refine g_iadd 71 dM_keep_70 rfl ?_
      refine g_aload_n 72 (i := 0) dM_keep_71 rfl rfl rfl ?_
      refine g_getfR 75 5 2 dM_keep_72 rfl x_in5 tw_2_237 rfl (by decide) e4 ?_
      refine g_iload_n 76 (i := 1) dM_keep_75 rfl rfl rfl ?_
      obtain ⟨t5, e5, h⟩ := x_bind h
      refine g_iald 77 dM_keep_76 rfl e5 ?_
      obtain ⟨w6, e6, h⟩ := x_bind h
      refine g_iast 78 dM_keep_77 rfl e6 ?_
      refine g_iinc 81 [some (.ref v0), some (.int (v1 + (1 : Int32)))] dM_keep_78 rfl rfl (x_inc (1 : Int32) (by decide)) rfl (by decide) ?_
      refine g_goto 55 dM_keep_81 (by decide) ?_
      exact ih _ _ _ h
set_option maxHeartbeats 4000000 in
set_option maxRecDepth 100000 in
theorem lM_keep_26 (d : Nat) (hd : 1 ≤ d) {K : Option Value → x_W → Prop} {r : (Int32 × x_W)} (hK : K (some (.int r.1)) r.2) : ∀ (n : Nat) (w : x_W) (v0 : Nat) (v1 : Int32), fM_keep_26 n w v0 v1 = some r → x_G none yM_keep cM_keep 2 (some .int) (x_room d 0 0) (x_QM K 0 0) 26 [some (.ref v0), some (.int v1)] [] w 0 0 := by
  intro n
  induction n with
  | zero => intro w v0 v1 h; rw [fM_keep_26] at h; cases h
  | succ n ih =>
    intro w v0 v1 h
    rw [fM_keep_26] at h
    refine g_iload_n 27 (i := 1) dM_keep_26 rfl rfl rfl ?_
    refine g_bipush 29 (6 : Int32) dM_keep_27 rfl (by decide) ?_
    by_cases c1 : (6 : Int32) ≤ v1
    · rw [if_pos c1] at h
      refine g_icmp_ge_t 53 dM_keep_29 (by decide) c1 ?_
      refine g_iconst 54 (0 : Int32) dM_keep_53 rfl (by decide) ?_
      refine g_istore_n 55 (i := 1) [some (.ref v0), some (.int (0 : Int32))] dM_keep_54 rfl rfl rfl (by decide) ?_
      exact lM_keep_55 d hd hK x_F _ _ _ h
    · rw [if_neg c1] at h
      refine g_icmp_ge_f 32 53 dM_keep_29 (by decide) rfl c1 ?_
      refine g_aload_n 33 (i := 0) dM_keep_32 rfl rfl rfl ?_
      obtain ⟨t2, e2, h⟩ := x_bind h
      refine g_getfR 36 5 1 dM_keep_33 rfl x_in5 tw_2_236 rfl (by decide) e2 ?_
      refine g_bipush 38 (6 : Int32) dM_keep_36 rfl (by decide) ?_
      refine g_iload_n 39 (i := 1) dM_keep_38 rfl rfl rfl ?_
      refine g_iadd 40 dM_keep_39 rfl ?_
      refine g_aload_n 41 (i := 0) dM_keep_40 rfl rfl rfl ?_
      refine g_getfR 44 5 1 dM_keep_41 rfl x_in5 tw_2_236 rfl (by decide) e2 ?_
      refine g_iload_n 45 (i := 1) dM_keep_44 rfl rfl rfl ?_
      obtain ⟨t3, e3, h⟩ := x_bind h
      refine g_iald 46 dM_keep_45 rfl e3 ?_
      obtain ⟨w4, e4, h⟩ := x_bind h
      refine g_iast 47 dM_keep_46 rfl e4 ?_
      refine g_iinc 50 [some (.ref v0), some (.int (v1 + (1 : Int32)))] dM_keep_47 rfl rfl (x_inc (1 : Int32) (by decide)) rfl (by decide) ?_
      refine g_goto 26 dM_keep_50 (by decide) ?_
      exact ih _ _ _ h
set_option maxHeartbeats 4000000 in
set_option maxRecDepth 100000 in
theorem mM_keep (d : Nat) (hd : 1 ≤ d) {K : Option Value → x_W → Prop} {w : x_W} {v0 : Nat} {r : (Int32 × x_W)} (h : fM_keep w v0 = some r) (hK : K (some (.int r.1)) r.2) : x_M yM_keep cM_keep 2 (some .int) d 0 0 [.ref v0] w K := by
  refine x_M.of [some (.ref v0), none] (by decide) rfl (Nat.le_of_ble_eq_true rfl) ?_
  unfold fM_keep at h
  refine g_aload_n 1 (i := 0) dM_keep_0 rfl rfl rfl ?_
  obtain ⟨t1, e1, h⟩ := x_bind h
  refine g_getfR 4 5 0 dM_keep_1 rfl x_in5 tw_2_235 rfl (by decide) e1 ?_
  refine g_iconst 5 (1 : Int32) dM_keep_4 rfl (by decide) ?_
  refine g_aload_n 6 (i := 0) dM_keep_5 rfl rfl rfl ?_
  refine g_getfR 9 5 0 dM_keep_6 rfl x_in5 tw_2_235 rfl (by decide) e1 ?_
  refine g_iconst 10 (0 : Int32) dM_keep_9 rfl (by decide) ?_
  obtain ⟨t2, e2, h⟩ := x_bind h
  refine g_iald 11 dM_keep_10 rfl e2 ?_
  obtain ⟨w3, e3, h⟩ := x_bind h
  refine g_iast 12 dM_keep_11 rfl e3 ?_
  refine g_aload_n 13 (i := 0) dM_keep_12 rfl rfl rfl ?_
  obtain ⟨t4, e4, h⟩ := x_bind h
  refine g_getfR 16 5 3 dM_keep_13 rfl x_in5 tw_2_238 rfl (by decide) e4 ?_
  refine g_iconst 17 (1 : Int32) dM_keep_16 rfl (by decide) ?_
  refine g_aload_n 18 (i := 0) dM_keep_17 rfl rfl rfl ?_
  refine g_getfR 21 5 3 dM_keep_18 rfl x_in5 tw_2_238 rfl (by decide) e4 ?_
  refine g_iconst 22 (0 : Int32) dM_keep_21 rfl (by decide) ?_
  obtain ⟨t5, e5, h⟩ := x_bind h
  refine g_iald 23 dM_keep_22 rfl e5 ?_
  obtain ⟨w6, e6, h⟩ := x_bind h
  refine g_iast 24 dM_keep_23 rfl e6 ?_
  refine g_iconst 25 (0 : Int32) dM_keep_24 rfl (by decide) ?_
  refine g_istore_n 26 (i := 1) [some (.ref v0), some (.int (0 : Int32))] dM_keep_25 rfl rfl rfl (by decide) ?_
  exact lM_keep_26 d hd hK x_F _ _ _ h
/-! ActSurgeryModel.sameOdds(II)Z: level P -/
theorem dM_sameOdds_0 : decode cM_sameOdds 0 = .ok (.iconst 1, 1) := by decide +kernel
theorem dM_sameOdds_1 : decode cM_sameOdds 1 = .ok (.istore_n 3, 1) := by decide +kernel
theorem dM_sameOdds_2 : decode cM_sameOdds 2 = .ok (.iconst 0, 1) := by decide +kernel
theorem dM_sameOdds_3 : decode cM_sameOdds 3 = .ok (.istore 4, 2) := by decide +kernel
theorem dM_sameOdds_5 : decode cM_sameOdds 5 = .ok (.iload 4, 2) := by decide +kernel
theorem dM_sameOdds_7 : decode cM_sameOdds 7 = .ok (.aload_n 0, 1) := by decide +kernel
theorem dM_sameOdds_8 : decode cM_sameOdds 8 = .ok (.invokevirtual 52, 3) := by decide +kernel
theorem dM_sameOdds_11 : decode cM_sameOdds 11 = .ok (.if_icmp .gt 41, 3) := by decide +kernel
theorem dM_sameOdds_14 : decode cM_sameOdds 14 = .ok (.iload_n 3, 1) := by decide +kernel
theorem dM_sameOdds_15 : decode cM_sameOdds 15 = .ok (.ifCond .eq 37, 3) := by decide +kernel
theorem dM_sameOdds_18 : decode cM_sameOdds 18 = .ok (.aload_n 0, 1) := by decide +kernel
theorem dM_sameOdds_19 : decode cM_sameOdds 19 = .ok (.iconst 0, 1) := by decide +kernel
theorem dM_sameOdds_20 : decode cM_sameOdds 20 = .ok (.iload 4, 2) := by decide +kernel
theorem dM_sameOdds_22 : decode cM_sameOdds 22 = .ok (.iload_n 1, 1) := by decide +kernel
theorem dM_sameOdds_23 : decode cM_sameOdds 23 = .ok (.iload_n 2, 1) := by decide +kernel
theorem dM_sameOdds_24 : decode cM_sameOdds 24 = .ok (.invokevirtual 169, 3) := by decide +kernel
theorem dM_sameOdds_27 : decode cM_sameOdds 27 = .ok (.aload_n 0, 1) := by decide +kernel
theorem dM_sameOdds_28 : decode cM_sameOdds 28 = .ok (.iconst 1, 1) := by decide +kernel
theorem dM_sameOdds_29 : decode cM_sameOdds 29 = .ok (.iload 4, 2) := by decide +kernel
theorem dM_sameOdds_31 : decode cM_sameOdds 31 = .ok (.iload_n 1, 1) := by decide +kernel
theorem dM_sameOdds_32 : decode cM_sameOdds 32 = .ok (.iload_n 2, 1) := by decide +kernel
theorem dM_sameOdds_33 : decode cM_sameOdds 33 = .ok (.invokevirtual 169, 3) := by decide +kernel
theorem dM_sameOdds_36 : decode cM_sameOdds 36 = .ok (.lcmp, 1) := by decide +kernel
theorem dM_sameOdds_37 : decode cM_sameOdds 37 = .ok (.ifCond .ne 7, 3) := by decide +kernel
theorem dM_sameOdds_40 : decode cM_sameOdds 40 = .ok (.iconst 1, 1) := by decide +kernel
theorem dM_sameOdds_41 : decode cM_sameOdds 41 = .ok (.goto 4, 3) := by decide +kernel
theorem dM_sameOdds_44 : decode cM_sameOdds 44 = .ok (.iconst 0, 1) := by decide +kernel
theorem dM_sameOdds_45 : decode cM_sameOdds 45 = .ok (.istore_n 3, 1) := by decide +kernel
theorem dM_sameOdds_46 : decode cM_sameOdds 46 = .ok (.iinc 4 1, 3) := by decide +kernel
theorem dM_sameOdds_49 : decode cM_sameOdds 49 = .ok (.goto (-44), 3) := by decide +kernel
theorem dM_sameOdds_52 : decode cM_sameOdds 52 = .ok (.iload_n 3, 1) := by decide +kernel
theorem dM_sameOdds_53 : decode cM_sameOdds 53 = .ok (.ireturn, 1) := by decide +kernel
def fM_sameOdds_5 (w : x_W) : Nat → Nat → Int32 → Int32 → Int32 → Int32 → Option Int32
  | 0, _, _, _, _, _ => none
  | n + 1, v0, v1, v2, v3, v4 =>
    (x_ob w v0 5).bind fun _ =>
    (fM_all w v0).bind fun t2 =>
    if t2 < v4 then
      if v3 = 0 ∨ v3 = 1 then some v3 else none
    else
      if v3 = (0 : Int32) then
        if v3 = 0 ∨ v3 = 1 then some v3 else none
      else
        (fM_draws w v0 (0 : Int32) v4 v1 v2).bind fun t7 =>
        (fM_draws w v0 (1 : Int32) v4 v1 v2).bind fun t8 =>
        if (lg_cmp t7 t8) = (0 : Int32) then
          fM_sameOdds_5 w n v0 v1 v2 (1 : Int32) (v4 + (1 : Int32))
        else
          fM_sameOdds_5 w n v0 v1 v2 (0 : Int32) (v4 + (1 : Int32))
def fM_sameOdds (w : x_W) (v0 : Nat) (v1 : Int32) (v2 : Int32) : Option Int32 :=
  fM_sameOdds_5 w x_F v0 v1 v2 (1 : Int32) (0 : Int32)
set_option maxHeartbeats 4000000 in
set_option maxRecDepth 100000 in
theorem lM_sameOdds_5 (d : Nat) (hd : 3 ≤ d) {K : Option Value → x_W → Prop} {r : Int32} {w : x_W} (hK : K (some (.int r)) w) : ∀ (n : Nat) (v0 : Nat) (v1 : Int32) (v2 : Int32) (v3 : Int32) (v4 : Int32), fM_sameOdds_5 w n v0 v1 v2 v3 v4 = some r → x_G none yM_sameOdds cM_sameOdds 5 (some .boolean) (x_room d 0 0) (x_QM K 0 0) 5 [some (.ref v0), some (.int v1), some (.int v2), some (.int v3), some (.int v4)] [] w 0 0 := by
  intro n
  induction n with
  | zero => intro v0 v1 v2 v3 v4 h; rw [fM_sameOdds_5] at h; cases h
  | succ n ih =>
    intro v0 v1 v2 v3 v4 h
    rw [fM_sameOdds_5] at h
    refine g_iload 7 dM_sameOdds_5 rfl rfl ?_
    refine g_aload_n 8 (i := 0) dM_sameOdds_7 rfl rfl rfl ?_
    obtain ⟨_, e1, h⟩ := x_bind h
    obtain ⟨t2, e2, h⟩ := x_bind h
    refine g_cV 11 (some (.int t2)) w [] [.int v4] dM_sameOdds_8 rfl (fun _ hK2 => mM_all (d - 1) (by omega) e2 hK2) (x_ob_some e1) kM_52 (x_rm (Nat.le_trans (by decide) hd) (by decide)) ⟨Nat.zero_le _, Nat.zero_le _⟩ (Nat.le_of_ble_eq_true rfl) rfl ?_
    by_cases c3 : t2 < v4
    · rw [if_pos c3] at h
      refine g_icmp_gt_t 52 dM_sameOdds_11 (by decide) c3 ?_
      refine g_iload_n 53 (i := 3) dM_sameOdds_52 rfl rfl rfl ?_
      have c4 : v3 = 0 ∨ v3 = 1 := by
        by_cases c : v3 = 0 ∨ v3 = 1
        · exact c
        · rw [if_neg c] at h; cases h
      rw [if_pos c4] at h
      obtain rfl := Option.some.inj h
      exact g_zret rfl c4 dM_sameOdds_53 hK
    · rw [if_neg c3] at h
      refine g_icmp_gt_f 14 52 dM_sameOdds_11 (by decide) rfl c3 ?_
      refine g_iload_n 15 (i := 3) dM_sameOdds_14 rfl rfl rfl ?_
      by_cases c5 : v3 = (0 : Int32)
      · rw [if_pos c5] at h
        refine g_if_eq_t 52 dM_sameOdds_15 (by decide) c5 ?_
        refine g_iload_n 53 (i := 3) dM_sameOdds_52 rfl rfl rfl ?_
        have c6 : v3 = 0 ∨ v3 = 1 := by
          by_cases c : v3 = 0 ∨ v3 = 1
          · exact c
          · rw [if_neg c] at h; cases h
        rw [if_pos c6] at h
        obtain rfl := Option.some.inj h
        exact g_zret rfl c6 dM_sameOdds_53 hK
      · rw [if_neg c5] at h
        refine g_if_eq_f 18 52 dM_sameOdds_15 (by decide) rfl c5 ?_
        refine g_aload_n 19 (i := 0) dM_sameOdds_18 rfl rfl rfl ?_
        refine g_iconst 20 (0 : Int32) dM_sameOdds_19 rfl (by decide) ?_
        refine g_iload 22 dM_sameOdds_20 rfl rfl ?_
        refine g_iload_n 23 (i := 1) dM_sameOdds_22 rfl rfl rfl ?_
        refine g_iload_n 24 (i := 2) dM_sameOdds_23 rfl rfl rfl ?_
        obtain ⟨t7, e7, h⟩ := x_bind h
        refine g_cV 27 (some (.long t7)) w [.int (0 : Int32), .int v4, .int v1, .int v2] [] dM_sameOdds_24 rfl (fun _ hK2 => mM_draws (d - 1) (by omega) e7 hK2) (x_ob_some e1) kM_169 (x_rm (Nat.le_trans (by decide) hd) (by decide)) ⟨Nat.zero_le _, Nat.zero_le _⟩ (Nat.le_of_ble_eq_true rfl) rfl ?_
        refine g_aload_n 28 (i := 0) dM_sameOdds_27 rfl rfl rfl ?_
        refine g_iconst 29 (1 : Int32) dM_sameOdds_28 rfl (by decide) ?_
        refine g_iload 31 dM_sameOdds_29 rfl rfl ?_
        refine g_iload_n 32 (i := 1) dM_sameOdds_31 rfl rfl rfl ?_
        refine g_iload_n 33 (i := 2) dM_sameOdds_32 rfl rfl rfl ?_
        obtain ⟨t8, e8, h⟩ := x_bind h
        refine g_cV 36 (some (.long t8)) w [.int (1 : Int32), .int v4, .int v1, .int v2] [.long t7] dM_sameOdds_33 rfl (fun _ hK2 => mM_draws (d - 1) (by omega) e8 hK2) (x_ob_some e1) kM_169 (x_rm (Nat.le_trans (by decide) hd) (by decide)) ⟨Nat.zero_le _, Nat.zero_le _⟩ (Nat.le_of_ble_eq_true rfl) rfl ?_
        refine g_lcmp 37 dM_sameOdds_36 rfl ?_
        by_cases c9 : (lg_cmp t7 t8) = (0 : Int32)
        · rw [if_pos c9] at h
          refine g_if_ne_f 40 44 dM_sameOdds_37 (by decide) rfl c9 ?_
          refine g_iconst 41 (1 : Int32) dM_sameOdds_40 rfl (by decide) ?_
          refine g_goto 45 dM_sameOdds_41 (by decide) ?_
          refine g_istore_n 46 (i := 3) [some (.ref v0), some (.int v1), some (.int v2), some (.int (1 : Int32)), some (.int v4)] dM_sameOdds_45 rfl rfl rfl (by decide) ?_
          refine g_iinc 49 [some (.ref v0), some (.int v1), some (.int v2), some (.int (1 : Int32)), some (.int (v4 + (1 : Int32)))] dM_sameOdds_46 rfl rfl (x_inc (1 : Int32) (by decide)) rfl (by decide) ?_
          refine g_goto 5 dM_sameOdds_49 (by decide) ?_
          exact ih _ _ _ _ _ h
        · rw [if_neg c9] at h
          refine g_if_ne_t 44 dM_sameOdds_37 (by decide) c9 ?_
          refine g_iconst 45 (0 : Int32) dM_sameOdds_44 rfl (by decide) ?_
          refine g_istore_n 46 (i := 3) [some (.ref v0), some (.int v1), some (.int v2), some (.int (0 : Int32)), some (.int v4)] dM_sameOdds_45 rfl rfl rfl (by decide) ?_
          refine g_iinc 49 [some (.ref v0), some (.int v1), some (.int v2), some (.int (0 : Int32)), some (.int (v4 + (1 : Int32)))] dM_sameOdds_46 rfl rfl (x_inc (1 : Int32) (by decide)) rfl (by decide) ?_
          refine g_goto 5 dM_sameOdds_49 (by decide) ?_
          exact ih _ _ _ _ _ h
set_option maxHeartbeats 4000000 in
set_option maxRecDepth 100000 in
theorem mM_sameOdds (d : Nat) (hd : 3 ≤ d) {K : Option Value → x_W → Prop} {w : x_W} {v0 : Nat} {v1 : Int32} {v2 : Int32} {r : Int32} (h : fM_sameOdds w v0 v1 v2 = some r) (hK : K (some (.int r)) w) : x_M yM_sameOdds cM_sameOdds 5 (some .boolean) d 0 0 [.ref v0, .int v1, .int v2] w K := by
  refine x_M.of [some (.ref v0), some (.int v1), some (.int v2), none, none] (by decide) rfl (Nat.le_of_ble_eq_true rfl) ?_
  unfold fM_sameOdds at h
  refine g_iconst 1 (1 : Int32) dM_sameOdds_0 rfl (by decide) ?_
  refine g_istore_n 2 (i := 3) [some (.ref v0), some (.int v1), some (.int v2), some (.int (1 : Int32)), none] dM_sameOdds_1 rfl rfl rfl (by decide) ?_
  refine g_iconst 3 (0 : Int32) dM_sameOdds_2 rfl (by decide) ?_
  refine g_istore 5 [some (.ref v0), some (.int v1), some (.int v2), some (.int (1 : Int32)), some (.int (0 : Int32))] dM_sameOdds_3 rfl rfl (by decide) ?_
  exact lM_sameOdds_5 d hd hK x_F _ _ _ _ _ h
/-! ActSurgeryModel.sameWhatever()Z: level P -/
theorem dM_sameWhatever_0 : decode cM_sameWhatever 0 = .ok (.aload_n 0, 1) := by decide +kernel
theorem dM_sameWhatever_1 : decode cM_sameWhatever 1 = .ok (.iconst 0, 1) := by decide +kernel
theorem dM_sameWhatever_2 : decode cM_sameWhatever 2 = .ok (.iconst 0, 1) := by decide +kernel
theorem dM_sameWhatever_3 : decode cM_sameWhatever 3 = .ok (.invokevirtual 188, 3) := by decide +kernel
theorem dM_sameWhatever_6 : decode cM_sameWhatever 6 = .ok (.istore_n 1, 1) := by decide +kernel
theorem dM_sameWhatever_7 : decode cM_sameWhatever 7 = .ok (.iconst 0, 1) := by decide +kernel
theorem dM_sameWhatever_8 : decode cM_sameWhatever 8 = .ok (.istore_n 2, 1) := by decide +kernel
theorem dM_sameWhatever_9 : decode cM_sameWhatever 9 = .ok (.iload_n 2, 1) := by decide +kernel
theorem dM_sameWhatever_10 : decode cM_sameWhatever 10 = .ok (.aload_n 0, 1) := by decide +kernel
theorem dM_sameWhatever_11 : decode cM_sameWhatever 11 = .ok (.invokevirtual 44, 3) := by decide +kernel
theorem dM_sameWhatever_14 : decode cM_sameWhatever 14 = .ok (.if_icmp .ge 43, 3) := by decide +kernel
theorem dM_sameWhatever_17 : decode cM_sameWhatever 17 = .ok (.iload_n 1, 1) := by decide +kernel
theorem dM_sameWhatever_18 : decode cM_sameWhatever 18 = .ok (.ifCond .eq 39, 3) := by decide +kernel
theorem dM_sameWhatever_21 : decode cM_sameWhatever 21 = .ok (.aload_n 0, 1) := by decide +kernel
theorem dM_sameWhatever_22 : decode cM_sameWhatever 22 = .ok (.iconst 1, 1) := by decide +kernel
theorem dM_sameWhatever_23 : decode cM_sameWhatever 23 = .ok (.iload_n 2, 1) := by decide +kernel
theorem dM_sameWhatever_24 : decode cM_sameWhatever 24 = .ok (.ishl, 1) := by decide +kernel
theorem dM_sameWhatever_25 : decode cM_sameWhatever 25 = .ok (.iconst 0, 1) := by decide +kernel
theorem dM_sameWhatever_26 : decode cM_sameWhatever 26 = .ok (.invokevirtual 188, 3) := by decide +kernel
theorem dM_sameWhatever_29 : decode cM_sameWhatever 29 = .ok (.ifCond .eq 20, 3) := by decide +kernel
theorem dM_sameWhatever_32 : decode cM_sameWhatever 32 = .ok (.aload_n 0, 1) := by decide +kernel
theorem dM_sameWhatever_33 : decode cM_sameWhatever 33 = .ok (.iconst 1, 1) := by decide +kernel
theorem dM_sameWhatever_34 : decode cM_sameWhatever 34 = .ok (.iload_n 2, 1) := by decide +kernel
theorem dM_sameWhatever_35 : decode cM_sameWhatever 35 = .ok (.ishl, 1) := by decide +kernel
theorem dM_sameWhatever_36 : decode cM_sameWhatever 36 = .ok (.iconst 1, 1) := by decide +kernel
theorem dM_sameWhatever_37 : decode cM_sameWhatever 37 = .ok (.iload_n 2, 1) := by decide +kernel
theorem dM_sameWhatever_38 : decode cM_sameWhatever 38 = .ok (.ishl, 1) := by decide +kernel
theorem dM_sameWhatever_39 : decode cM_sameWhatever 39 = .ok (.invokevirtual 188, 3) := by decide +kernel
theorem dM_sameWhatever_42 : decode cM_sameWhatever 42 = .ok (.ifCond .eq 7, 3) := by decide +kernel
theorem dM_sameWhatever_45 : decode cM_sameWhatever 45 = .ok (.iconst 1, 1) := by decide +kernel
theorem dM_sameWhatever_46 : decode cM_sameWhatever 46 = .ok (.goto 4, 3) := by decide +kernel
theorem dM_sameWhatever_49 : decode cM_sameWhatever 49 = .ok (.iconst 0, 1) := by decide +kernel
theorem dM_sameWhatever_50 : decode cM_sameWhatever 50 = .ok (.istore_n 1, 1) := by decide +kernel
theorem dM_sameWhatever_51 : decode cM_sameWhatever 51 = .ok (.iinc 2 1, 3) := by decide +kernel
theorem dM_sameWhatever_54 : decode cM_sameWhatever 54 = .ok (.goto (-45), 3) := by decide +kernel
theorem dM_sameWhatever_57 : decode cM_sameWhatever 57 = .ok (.iload_n 1, 1) := by decide +kernel
theorem dM_sameWhatever_58 : decode cM_sameWhatever 58 = .ok (.ireturn, 1) := by decide +kernel
theorem tw_4_27 : (Jvm.Cond.instanceMethod ({ cls := "ActSurgeryModel", name := "sameOdds", desc := "(II)Z" } : Jvm.MethodName)) ∈ x_GT := x_t4 27 rfl rfl
theorem tws_63 : (Jvm.Cond.selects "ActSurgeryModel" ({ cls := "ActSurgeryModel", name := "sameOdds", desc := "(II)Z" } : Jvm.MethodName) ({ cls := "ActSurgeryModel", name := "sameOdds", desc := "(II)Z" } : Jvm.MethodName)) ∈ x_GT := x_ts 63 rfl rfl
theorem tw_4_28 : (Jvm.Cond.code ({ cls := "ActSurgeryModel", name := "sameOdds", desc := "(II)Z" } : Jvm.MethodName) prog_7_method_62_code (5 : Nat) (Option.some Jvm.ClassFile.FieldType.boolean)) ∈ x_GT := x_t4 28 rfl rfl
theorem tw_4_25 : (Jvm.Cond.methodLink "ActSurgeryModel" (188 : Nat) ({ cls := "ActSurgeryModel", name := "sameOdds", desc := "(II)Z" } : Jvm.MethodName)) ∈ x_GT := x_t4 25 rfl rfl
theorem kM_188 : x_kV "ActSurgeryModel" 188 yM_sameOdds cM_sameOdds 5 (some .boolean) 2 5 := ⟨tw_4_27, tws_63, tw_4_28, tw_1_6, tw_4_25, (by decide +kernel), rfl⟩
def fM_sameWhatever_9 (w : x_W) : Nat → Nat → Int32 → Int32 → Option Int32
  | 0, _, _, _ => none
  | n + 1, v0, v1, v2 =>
    (x_ob w v0 5).bind fun _ =>
    (fM_n w v0).bind fun t2 =>
    if t2 ≤ v2 then
      if v1 = 0 ∨ v1 = 1 then some v1 else none
    else
      if v1 = (0 : Int32) then
        if v1 = 0 ∨ v1 = 1 then some v1 else none
      else
        (fM_sameOdds w v0 ((1 : Int32) <<< (v2 &&& 31)) (0 : Int32)).bind fun t7 =>
        if t7 = (0 : Int32) then
          fM_sameWhatever_9 w n v0 (0 : Int32) (v2 + (1 : Int32))
        else
          (fM_sameOdds w v0 ((1 : Int32) <<< (v2 &&& 31)) ((1 : Int32) <<< (v2 &&& 31))).bind fun t9 =>
          if t9 = (0 : Int32) then
            fM_sameWhatever_9 w n v0 (0 : Int32) (v2 + (1 : Int32))
          else
            fM_sameWhatever_9 w n v0 (1 : Int32) (v2 + (1 : Int32))
def fM_sameWhatever (w : x_W) (v0 : Nat) : Option Int32 :=
  (x_ob w v0 5).bind fun _ =>
  (fM_sameOdds w v0 (0 : Int32) (0 : Int32)).bind fun t2 =>
  fM_sameWhatever_9 w x_F v0 t2 (0 : Int32)
set_option maxHeartbeats 4000000 in
set_option maxRecDepth 100000 in
theorem lM_sameWhatever_9 (d : Nat) (hd : 4 ≤ d) {K : Option Value → x_W → Prop} {r : Int32} {w : x_W} (hK : K (some (.int r)) w) : ∀ (n : Nat) (v0 : Nat) (v1 : Int32) (v2 : Int32), fM_sameWhatever_9 w n v0 v1 v2 = some r → x_G none yM_sameWhatever cM_sameWhatever 3 (some .boolean) (x_room d 0 0) (x_QM K 0 0) 9 [some (.ref v0), some (.int v1), some (.int v2)] [] w 0 0 := by
  intro n
  induction n with
  | zero => intro v0 v1 v2 h; rw [fM_sameWhatever_9] at h; cases h
  | succ n ih =>
    intro v0 v1 v2 h
    rw [fM_sameWhatever_9] at h
    refine g_iload_n 10 (i := 2) dM_sameWhatever_9 rfl rfl rfl ?_
    refine g_aload_n 11 (i := 0) dM_sameWhatever_10 rfl rfl rfl ?_
    obtain ⟨_, e1, h⟩ := x_bind h
    obtain ⟨t2, e2, h⟩ := x_bind h
    refine g_cV 14 (some (.int t2)) w [] [.int v2] dM_sameWhatever_11 rfl (fun _ hK2 => mM_n (d - 1) (by omega) e2 hK2) (x_ob_some e1) kM_44 (x_rm (Nat.le_trans (by decide) hd) (by decide)) ⟨Nat.zero_le _, Nat.zero_le _⟩ (Nat.le_of_ble_eq_true rfl) rfl ?_
    by_cases c3 : t2 ≤ v2
    · rw [if_pos c3] at h
      refine g_icmp_ge_t 57 dM_sameWhatever_14 (by decide) c3 ?_
      refine g_iload_n 58 (i := 1) dM_sameWhatever_57 rfl rfl rfl ?_
      have c4 : v1 = 0 ∨ v1 = 1 := by
        by_cases c : v1 = 0 ∨ v1 = 1
        · exact c
        · rw [if_neg c] at h; cases h
      rw [if_pos c4] at h
      obtain rfl := Option.some.inj h
      exact g_zret rfl c4 dM_sameWhatever_58 hK
    · rw [if_neg c3] at h
      refine g_icmp_ge_f 17 57 dM_sameWhatever_14 (by decide) rfl c3 ?_
      refine g_iload_n 18 (i := 1) dM_sameWhatever_17 rfl rfl rfl ?_
      by_cases c5 : v1 = (0 : Int32)
      · rw [if_pos c5] at h
        refine g_if_eq_t 57 dM_sameWhatever_18 (by decide) c5 ?_
        refine g_iload_n 58 (i := 1) dM_sameWhatever_57 rfl rfl rfl ?_
        have c6 : v1 = 0 ∨ v1 = 1 := by
          by_cases c : v1 = 0 ∨ v1 = 1
          · exact c
          · rw [if_neg c] at h; cases h
        rw [if_pos c6] at h
        obtain rfl := Option.some.inj h
        exact g_zret rfl c6 dM_sameWhatever_58 hK
      · rw [if_neg c5] at h
        refine g_if_eq_f 21 57 dM_sameWhatever_18 (by decide) rfl c5 ?_
        refine g_aload_n 22 (i := 0) dM_sameWhatever_21 rfl rfl rfl ?_
        refine g_iconst 23 (1 : Int32) dM_sameWhatever_22 rfl (by decide) ?_
        refine g_iload_n 24 (i := 2) dM_sameWhatever_23 rfl rfl rfl ?_
        refine g_ishl 25 dM_sameWhatever_24 rfl ?_
        refine g_iconst 26 (0 : Int32) dM_sameWhatever_25 rfl (by decide) ?_
        obtain ⟨t7, e7, h⟩ := x_bind h
        refine g_cV 29 (some (.int t7)) w [.int ((1 : Int32) <<< (v2 &&& 31)), .int (0 : Int32)] [] dM_sameWhatever_26 rfl (fun _ hK2 => mM_sameOdds (d - 1) (by omega) e7 hK2) (x_ob_some e1) kM_188 (x_rm (Nat.le_trans (by decide) hd) (by decide)) ⟨Nat.zero_le _, Nat.zero_le _⟩ (Nat.le_of_ble_eq_true rfl) rfl ?_
        by_cases c8 : t7 = (0 : Int32)
        · rw [if_pos c8] at h
          refine g_if_eq_t 49 dM_sameWhatever_29 (by decide) c8 ?_
          refine g_iconst 50 (0 : Int32) dM_sameWhatever_49 rfl (by decide) ?_
          refine g_istore_n 51 (i := 1) [some (.ref v0), some (.int (0 : Int32)), some (.int v2)] dM_sameWhatever_50 rfl rfl rfl (by decide) ?_
          refine g_iinc 54 [some (.ref v0), some (.int (0 : Int32)), some (.int (v2 + (1 : Int32)))] dM_sameWhatever_51 rfl rfl (x_inc (1 : Int32) (by decide)) rfl (by decide) ?_
          refine g_goto 9 dM_sameWhatever_54 (by decide) ?_
          exact ih _ _ _ h
        · rw [if_neg c8] at h
          refine g_if_eq_f 32 49 dM_sameWhatever_29 (by decide) rfl c8 ?_
          refine g_aload_n 33 (i := 0) dM_sameWhatever_32 rfl rfl rfl ?_
          refine g_iconst 34 (1 : Int32) dM_sameWhatever_33 rfl (by decide) ?_
          refine g_iload_n 35 (i := 2) dM_sameWhatever_34 rfl rfl rfl ?_
          refine g_ishl 36 dM_sameWhatever_35 rfl ?_
          refine g_iconst 37 (1 : Int32) dM_sameWhatever_36 rfl (by decide) ?_
          refine g_iload_n 38 (i := 2) dM_sameWhatever_37 rfl rfl rfl ?_
          refine g_ishl 39 dM_sameWhatever_38 rfl ?_
          obtain ⟨t9, e9, h⟩ := x_bind h
          refine g_cV 42 (some (.int t9)) w [.int ((1 : Int32) <<< (v2 &&& 31)), .int ((1 : Int32) <<< (v2 &&& 31))] [] dM_sameWhatever_39 rfl (fun _ hK2 => mM_sameOdds (d - 1) (by omega) e9 hK2) (x_ob_some e1) kM_188 (x_rm (Nat.le_trans (by decide) hd) (by decide)) ⟨Nat.zero_le _, Nat.zero_le _⟩ (Nat.le_of_ble_eq_true rfl) rfl ?_
          by_cases c10 : t9 = (0 : Int32)
          · rw [if_pos c10] at h
            refine g_if_eq_t 49 dM_sameWhatever_42 (by decide) c10 ?_
            refine g_iconst 50 (0 : Int32) dM_sameWhatever_49 rfl (by decide) ?_
            refine g_istore_n 51 (i := 1) [some (.ref v0), some (.int (0 : Int32)), some (.int v2)] dM_sameWhatever_50 rfl rfl rfl (by decide) ?_
            refine g_iinc 54 [some (.ref v0), some (.int (0 : Int32)), some (.int (v2 + (1 : Int32)))] dM_sameWhatever_51 rfl rfl (x_inc (1 : Int32) (by decide)) rfl (by decide) ?_
            refine g_goto 9 dM_sameWhatever_54 (by decide) ?_
            exact ih _ _ _ h
          · rw [if_neg c10] at h
            refine g_if_eq_f 45 49 dM_sameWhatever_42 (by decide) rfl c10 ?_
            refine g_iconst 46 (1 : Int32) dM_sameWhatever_45 rfl (by decide) ?_
            refine g_goto 50 dM_sameWhatever_46 (by decide) ?_
            refine g_istore_n 51 (i := 1) [some (.ref v0), some (.int (1 : Int32)), some (.int v2)] dM_sameWhatever_50 rfl rfl rfl (by decide) ?_
            refine g_iinc 54 [some (.ref v0), some (.int (1 : Int32)), some (.int (v2 + (1 : Int32)))] dM_sameWhatever_51 rfl rfl (x_inc (1 : Int32) (by decide)) rfl (by decide) ?_
            refine g_goto 9 dM_sameWhatever_54 (by decide) ?_
            exact ih _ _ _ h
set_option maxHeartbeats 4000000 in
set_option maxRecDepth 100000 in
theorem mM_sameWhatever (d : Nat) (hd : 4 ≤ d) {K : Option Value → x_W → Prop} {w : x_W} {v0 : Nat} {r : Int32} (h : fM_sameWhatever w v0 = some r) (hK : K (some (.int r)) w) : x_M yM_sameWhatever cM_sameWhatever 3 (some .boolean) d 0 0 [.ref v0] w K := by
  refine x_M.of [some (.ref v0), none, none] (by decide) rfl (Nat.le_of_ble_eq_true rfl) ?_
  unfold fM_sameWhatever at h
  refine g_aload_n 1 (i := 0) dM_sameWhatever_0 rfl rfl rfl ?_
  refine g_iconst 2 (0 : Int32) dM_sameWhatever_1 rfl (by decide) ?_
  refine g_iconst 3 (0 : Int32) dM_sameWhatever_2 rfl (by decide) ?_
  obtain ⟨_, e1, h⟩ := x_bind h
  obtain ⟨t2, e2, h⟩ := x_bind h
  refine g_cV 6 (some (.int t2)) w [.int (0 : Int32), .int (0 : Int32)] [] dM_sameWhatever_3 rfl (fun _ hK2 => mM_sameOdds (d - 1) (by omega) e2 hK2) (x_ob_some e1) kM_188 (x_rm (Nat.le_trans (by decide) hd) (by decide)) ⟨Nat.zero_le _, Nat.zero_le _⟩ (Nat.le_of_ble_eq_true rfl) rfl ?_
  refine g_istore_n 7 (i := 1) [some (.ref v0), some (.int t2), none] dM_sameWhatever_6 rfl rfl rfl (by decide) ?_
  refine g_iconst 8 (0 : Int32) dM_sameWhatever_7 rfl (by decide) ?_
  refine g_istore_n 9 (i := 2) [some (.ref v0), some (.int t2), some (.int (0 : Int32))] dM_sameWhatever_8 rfl rfl rfl (by decide) ?_
  exact lM_sameWhatever_9 d hd hK x_F _ _ _ h
/-! ActSurgeryModel.sameSeen()Z: level P -/
theorem dM_sameSeen_0 : decode cM_sameSeen 0 = .ok (.aload_n 0, 1) := by decide +kernel
theorem dM_sameSeen_1 : decode cM_sameSeen 1 = .ok (.invokevirtual 52, 3) := by decide +kernel
theorem dM_sameSeen_4 : decode cM_sameSeen 4 = .ok (.aload_n 0, 1) := by decide +kernel
theorem dM_sameSeen_5 : decode cM_sameSeen 5 = .ok (.getfield 19, 3) := by decide +kernel
theorem dM_sameSeen_8 : decode cM_sameSeen 8 = .ok (.iconst 0, 1) := by decide +kernel
theorem dM_sameSeen_9 : decode cM_sameSeen 9 = .ok (.iaload, 1) := by decide +kernel
theorem dM_sameSeen_10 : decode cM_sameSeen 10 = .ok (.iconst (-1), 1) := by decide +kernel
theorem dM_sameSeen_11 : decode cM_sameSeen 11 = .ok (.ixor, 1) := by decide +kernel
theorem dM_sameSeen_12 : decode cM_sameSeen 12 = .ok (.iand, 1) := by decide +kernel
theorem dM_sameSeen_13 : decode cM_sameSeen 13 = .ok (.aload_n 0, 1) := by decide +kernel
theorem dM_sameSeen_14 : decode cM_sameSeen 14 = .ok (.getfield 19, 3) := by decide +kernel
theorem dM_sameSeen_17 : decode cM_sameSeen 17 = .ok (.iconst 1, 1) := by decide +kernel
theorem dM_sameSeen_18 : decode cM_sameSeen 18 = .ok (.iaload, 1) := by decide +kernel
theorem dM_sameSeen_19 : decode cM_sameSeen 19 = .ok (.iconst (-1), 1) := by decide +kernel
theorem dM_sameSeen_20 : decode cM_sameSeen 20 = .ok (.ixor, 1) := by decide +kernel
theorem dM_sameSeen_21 : decode cM_sameSeen 21 = .ok (.iand, 1) := by decide +kernel
theorem dM_sameSeen_22 : decode cM_sameSeen 22 = .ok (.istore_n 1, 1) := by decide +kernel
theorem dM_sameSeen_23 : decode cM_sameSeen 23 = .ok (.iconst 1, 1) := by decide +kernel
theorem dM_sameSeen_24 : decode cM_sameSeen 24 = .ok (.istore_n 2, 1) := by decide +kernel
theorem dM_sameSeen_25 : decode cM_sameSeen 25 = .ok (.iconst 0, 1) := by decide +kernel
theorem dM_sameSeen_26 : decode cM_sameSeen 26 = .ok (.istore_n 3, 1) := by decide +kernel
theorem dM_sameSeen_27 : decode cM_sameSeen 27 = .ok (.iload_n 3, 1) := by decide +kernel
theorem dM_sameSeen_28 : decode cM_sameSeen 28 = .ok (.aload_n 0, 1) := by decide +kernel
theorem dM_sameSeen_29 : decode cM_sameSeen 29 = .ok (.invokevirtual 52, 3) := by decide +kernel
theorem dM_sameSeen_32 : decode cM_sameSeen 32 = .ok (.if_icmp .gt 113, 3) := by decide +kernel
theorem dM_sameSeen_35 : decode cM_sameSeen 35 = .ok (.iload_n 3, 1) := by decide +kernel
theorem dM_sameSeen_36 : decode cM_sameSeen 36 = .ok (.iload_n 1, 1) := by decide +kernel
theorem dM_sameSeen_37 : decode cM_sameSeen 37 = .ok (.iconst (-1), 1) := by decide +kernel
theorem dM_sameSeen_38 : decode cM_sameSeen 38 = .ok (.ixor, 1) := by decide +kernel
theorem dM_sameSeen_39 : decode cM_sameSeen 39 = .ok (.iand, 1) := by decide +kernel
theorem dM_sameSeen_40 : decode cM_sameSeen 40 = .ok (.ifCond .ne 99, 3) := by decide +kernel
theorem dM_sameSeen_43 : decode cM_sameSeen 43 = .ok (.lconst 0, 1) := by decide +kernel
theorem dM_sameSeen_44 : decode cM_sameSeen 44 = .ok (.lstore 4, 2) := by decide +kernel
theorem dM_sameSeen_46 : decode cM_sameSeen 46 = .ok (.lconst 0, 1) := by decide +kernel
theorem dM_sameSeen_47 : decode cM_sameSeen 47 = .ok (.lstore 6, 2) := by decide +kernel
theorem dM_sameSeen_49 : decode cM_sameSeen 49 = .ok (.iconst 0, 1) := by decide +kernel
theorem dM_sameSeen_50 : decode cM_sameSeen 50 = .ok (.istore 8, 2) := by decide +kernel
theorem dM_sameSeen_52 : decode cM_sameSeen 52 = .ok (.iload 8, 2) := by decide +kernel
theorem dM_sameSeen_54 : decode cM_sameSeen 54 = .ok (.aload_n 0, 1) := by decide +kernel
theorem dM_sameSeen_55 : decode cM_sameSeen 55 = .ok (.invokevirtual 52, 3) := by decide +kernel
theorem dM_sameSeen_58 : decode cM_sameSeen 58 = .ok (.if_icmp .gt 63, 3) := by decide +kernel
theorem dM_sameSeen_61 : decode cM_sameSeen 61 = .ok (.iload 8, 2) := by decide +kernel
theorem dM_sameSeen_63 : decode cM_sameSeen 63 = .ok (.iload_n 1, 1) := by decide +kernel
theorem dM_sameSeen_64 : decode cM_sameSeen 64 = .ok (.iand, 1) := by decide +kernel
theorem dM_sameSeen_65 : decode cM_sameSeen 65 = .ok (.iload_n 3, 1) := by decide +kernel
theorem dM_sameSeen_66 : decode cM_sameSeen 66 = .ok (.if_icmp .ne 18, 3) := by decide +kernel
theorem dM_sameSeen_69 : decode cM_sameSeen 69 = .ok (.lload 4, 2) := by decide +kernel
theorem dM_sameSeen_71 : decode cM_sameSeen 71 = .ok (.aload_n 0, 1) := by decide +kernel
theorem dM_sameSeen_72 : decode cM_sameSeen 72 = .ok (.iconst 0, 1) := by decide +kernel
theorem dM_sameSeen_73 : decode cM_sameSeen 73 = .ok (.iload 8, 2) := by decide +kernel
theorem dM_sameSeen_75 : decode cM_sameSeen 75 = .ok (.iconst 0, 1) := by decide +kernel
theorem dM_sameSeen_76 : decode cM_sameSeen 76 = .ok (.iconst 0, 1) := by decide +kernel
theorem dM_sameSeen_77 : decode cM_sameSeen 77 = .ok (.invokevirtual 169, 3) := by decide +kernel
theorem dM_sameSeen_80 : decode cM_sameSeen 80 = .ok (.ladd, 1) := by decide +kernel
theorem dM_sameSeen_81 : decode cM_sameSeen 81 = .ok (.goto 5, 3) := by decide +kernel
theorem dM_sameSeen_84 : decode cM_sameSeen 84 = .ok (.lload 4, 2) := by decide +kernel
theorem dM_sameSeen_86 : decode cM_sameSeen 86 = .ok (.lstore 4, 2) := by decide +kernel
theorem dM_sameSeen_88 : decode cM_sameSeen 88 = .ok (.iload 8, 2) := by decide +kernel
theorem dM_sameSeen_90 : decode cM_sameSeen 90 = .ok (.iload_n 1, 1) := by decide +kernel
theorem dM_sameSeen_91 : decode cM_sameSeen 91 = .ok (.iand, 1) := by decide +kernel
theorem dM_sameSeen_92 : decode cM_sameSeen 92 = .ok (.iload_n 3, 1) := by decide +kernel
theorem dM_sameSeen_93 : decode cM_sameSeen 93 = .ok (.if_icmp .ne 18, 3) := by decide +kernel
theorem dM_sameSeen_96 : decode cM_sameSeen 96 = .ok (.lload 6, 2) := by decide +kernel
theorem dM_sameSeen_98 : decode cM_sameSeen 98 = .ok (.aload_n 0, 1) := by decide +kernel
theorem dM_sameSeen_99 : decode cM_sameSeen 99 = .ok (.iconst 1, 1) := by decide +kernel
theorem dM_sameSeen_100 : decode cM_sameSeen 100 = .ok (.iload 8, 2) := by decide +kernel
theorem dM_sameSeen_102 : decode cM_sameSeen 102 = .ok (.iconst 0, 1) := by decide +kernel
theorem dM_sameSeen_103 : decode cM_sameSeen 103 = .ok (.iconst 0, 1) := by decide +kernel
theorem dM_sameSeen_104 : decode cM_sameSeen 104 = .ok (.invokevirtual 169, 3) := by decide +kernel
theorem dM_sameSeen_107 : decode cM_sameSeen 107 = .ok (.ladd, 1) := by decide +kernel
theorem dM_sameSeen_108 : decode cM_sameSeen 108 = .ok (.goto 5, 3) := by decide +kernel
theorem dM_sameSeen_111 : decode cM_sameSeen 111 = .ok (.lload 6, 2) := by decide +kernel
theorem dM_sameSeen_113 : decode cM_sameSeen 113 = .ok (.lstore 6, 2) := by decide +kernel
theorem dM_sameSeen_115 : decode cM_sameSeen 115 = .ok (.iinc 8 1, 3) := by decide +kernel
theorem dM_sameSeen_118 : decode cM_sameSeen 118 = .ok (.goto (-66), 3) := by decide +kernel
theorem dM_sameSeen_121 : decode cM_sameSeen 121 = .ok (.iload_n 2, 1) := by decide +kernel
theorem dM_sameSeen_122 : decode cM_sameSeen 122 = .ok (.ifCond .eq 15, 3) := by decide +kernel
theorem dM_sameSeen_125 : decode cM_sameSeen 125 = .ok (.lload 4, 2) := by decide +kernel
theorem dM_sameSeen_127 : decode cM_sameSeen 127 = .ok (.lload 6, 2) := by decide +kernel
theorem dM_sameSeen_129 : decode cM_sameSeen 129 = .ok (.lcmp, 1) := by decide +kernel
theorem dM_sameSeen_130 : decode cM_sameSeen 130 = .ok (.ifCond .ne 7, 3) := by decide +kernel
theorem dM_sameSeen_133 : decode cM_sameSeen 133 = .ok (.iconst 1, 1) := by decide +kernel
theorem dM_sameSeen_134 : decode cM_sameSeen 134 = .ok (.goto 4, 3) := by decide +kernel
theorem dM_sameSeen_137 : decode cM_sameSeen 137 = .ok (.iconst 0, 1) := by decide +kernel
theorem dM_sameSeen_138 : decode cM_sameSeen 138 = .ok (.istore_n 2, 1) := by decide +kernel
theorem dM_sameSeen_139 : decode cM_sameSeen 139 = .ok (.iinc 3 1, 3) := by decide +kernel
theorem dM_sameSeen_142 : decode cM_sameSeen 142 = .ok (.goto (-115), 3) := by decide +kernel
theorem dM_sameSeen_145 : decode cM_sameSeen 145 = .ok (.iload_n 2, 1) := by decide +kernel
theorem dM_sameSeen_146 : decode cM_sameSeen 146 = .ok (.ireturn, 1) := by decide +kernel
def fM_sameSeen_52 (w : x_W) (k27 : Nat → Int32 → Int32 → Int32 → Option Int32) : Nat → Nat → Int32 → Int32 → Int32 → Int64 → Int64 → Int32 → Option Int32
  | 0, _, _, _, _, _, _, _ => none
  | n + 1, v0, v1, v2, v3, v4, v6, v8 =>
    (x_ob w v0 5).bind fun _ =>
    (fM_all w v0).bind fun t2 =>
    if t2 < v8 then
      if v2 = (0 : Int32) then
        k27 v0 v1 (0 : Int32) (v3 + (1 : Int32))
      else
        if (lg_cmp v4 v6) = (0 : Int32) then
          k27 v0 v1 (1 : Int32) (v3 + (1 : Int32))
        else
          k27 v0 v1 (0 : Int32) (v3 + (1 : Int32))
    else
      if (v8 &&& v1) = v3 then
        (fM_draws w v0 (0 : Int32) v8 (0 : Int32) (0 : Int32)).bind fun t7 =>
        if (v8 &&& v1) = v3 then
          (fM_draws w v0 (1 : Int32) v8 (0 : Int32) (0 : Int32)).bind fun t9 =>
          fM_sameSeen_52 w k27 n v0 v1 v2 v3 (v4 + t7) (v6 + t9) (v8 + (1 : Int32))
        else
          fM_sameSeen_52 w k27 n v0 v1 v2 v3 (v4 + t7) v6 (v8 + (1 : Int32))
      else
        if (v8 &&& v1) = v3 then
          (fM_draws w v0 (1 : Int32) v8 (0 : Int32) (0 : Int32)).bind fun t11 =>
          fM_sameSeen_52 w k27 n v0 v1 v2 v3 v4 (v6 + t11) (v8 + (1 : Int32))
        else
          fM_sameSeen_52 w k27 n v0 v1 v2 v3 v4 v6 (v8 + (1 : Int32))
def fM_sameSeen_27 (w : x_W) : Nat → Nat → Int32 → Int32 → Int32 → Option Int32
  | 0, _, _, _, _ => none
  | n + 1, v0, v1, v2, v3 =>
    (x_ob w v0 5).bind fun _ =>
    (fM_all w v0).bind fun t2 =>
    if t2 < v3 then
      if v2 = 0 ∨ v2 = 1 then some v2 else none
    else
      if (v3 &&& (v1 ^^^ (-1 : Int32))) = (0 : Int32) then
        fM_sameSeen_52 w (fM_sameSeen_27 w n) x_F v0 v1 v2 v3 (0 : Int64) (0 : Int64) (0 : Int32)
      else
        fM_sameSeen_27 w n v0 v1 v2 (v3 + (1 : Int32))
def fM_sameSeen (w : x_W) (v0 : Nat) : Option Int32 :=
  (x_ob w v0 5).bind fun _ =>
  (fM_all w v0).bind fun t2 =>
  (x_fr w v0 5 3).bind fun t3 =>
  (x_ai w t3 (0 : Int32)).bind fun t4 =>
  (x_ai w t3 (1 : Int32)).bind fun t5 =>
  fM_sameSeen_27 w x_F v0 ((t2 &&& (t4 ^^^ (-1 : Int32))) &&& (t5 ^^^ (-1 : Int32))) (1 : Int32) (0 : Int32)
set_option maxHeartbeats 4000000 in
set_option maxRecDepth 100000 in
theorem lM_sameSeen_52 (d : Nat) (hd : 3 ≤ d) {K : Option Value → x_W → Prop} {r : Int32} {w : x_W} (hK : K (some (.int r)) w) {k27 : Nat → Int32 → Int32 → Int32 → Option Int32} (hk27 : ∀ (v0 : Nat) (v1 : Int32) (v2 : Int32) (v3 : Int32), k27 v0 v1 v2 v3 = some r → x_G none yM_sameSeen cM_sameSeen 9 (some .boolean) (x_room d 0 0) (x_QM K 0 0) 27 [some (.ref v0), some (.int v1), some (.int v2), some (.int v3), none, none, none, none, none] [] w 0 0) : ∀ (n : Nat) (v0 : Nat) (v1 : Int32) (v2 : Int32) (v3 : Int32) (v4 : Int64) (v6 : Int64) (v8 : Int32), fM_sameSeen_52 w k27 n v0 v1 v2 v3 v4 v6 v8 = some r → x_G none yM_sameSeen cM_sameSeen 9 (some .boolean) (x_room d 0 0) (x_QM K 0 0) 52 [some (.ref v0), some (.int v1), some (.int v2), some (.int v3), some (.long v4), none, some (.long v6), none, some (.int v8)] [] w 0 0 := by
  intro n
  induction n with
  | zero => intro v0 v1 v2 v3 v4 v6 v8 h; rw [fM_sameSeen_52] at h; cases h
  | succ n ih =>
    intro v0 v1 v2 v3 v4 v6 v8 h
    rw [fM_sameSeen_52] at h
    refine g_iload 54 dM_sameSeen_52 rfl rfl ?_
    refine g_aload_n 55 (i := 0) dM_sameSeen_54 rfl rfl rfl ?_
    obtain ⟨_, e1, h⟩ := x_bind h
    obtain ⟨t2, e2, h⟩ := x_bind h
    refine g_cV 58 (some (.int t2)) w [] [.int v8] dM_sameSeen_55 rfl (fun _ hK2 => mM_all (d - 1) (by omega) e2 hK2) (x_ob_some e1) kM_52 (x_rm (Nat.le_trans (by decide) hd) (by decide)) ⟨Nat.zero_le _, Nat.zero_le _⟩ (Nat.le_of_ble_eq_true rfl) rfl ?_
    by_cases c3 : t2 < v8
    · rw [if_pos c3] at h
      refine g_icmp_gt_t 121 dM_sameSeen_58 (by decide) c3 ?_
      refine g_iload_n 122 (i := 2) dM_sameSeen_121 rfl rfl rfl ?_
      by_cases c4 : v2 = (0 : Int32)
      · rw [if_pos c4] at h
        refine g_if_eq_t 137 dM_sameSeen_122 (by decide) c4 ?_
        refine g_iconst 138 (0 : Int32) dM_sameSeen_137 rfl (by decide) ?_
        refine g_istore_n 139 (i := 2) [some (.ref v0), some (.int v1), some (.int (0 : Int32)), some (.int v3), some (.long v4), none, some (.long v6), none, some (.int v8)] dM_sameSeen_138 rfl rfl rfl (by decide) ?_
        refine g_iinc 142 [some (.ref v0), some (.int v1), some (.int (0 : Int32)), some (.int (v3 + (1 : Int32))), some (.long v4), none, some (.long v6), none, some (.int v8)] dM_sameSeen_139 rfl rfl (x_inc (1 : Int32) (by decide)) rfl (by decide) ?_
        refine g_goto 27 dM_sameSeen_142 (by decide) ?_
        refine g_less [some (.ref v0), some (.int v1), some (.int (0 : Int32)), some (.int (v3 + (1 : Int32))), none, none, none, none, none] ⟨rfl, rfl, rfl, rfl, trivial⟩ ?_
        exact hk27 _ _ _ _ h
      · rw [if_neg c4] at h
        refine g_if_eq_f 125 137 dM_sameSeen_122 (by decide) rfl c4 ?_
        refine g_lload 127 dM_sameSeen_125 rfl rfl ?_
        refine g_lload 129 dM_sameSeen_127 rfl rfl ?_
        refine g_lcmp 130 dM_sameSeen_129 rfl ?_
        by_cases c5 : (lg_cmp v4 v6) = (0 : Int32)
        · rw [if_pos c5] at h
          refine g_if_ne_f 133 137 dM_sameSeen_130 (by decide) rfl c5 ?_
          refine g_iconst 134 (1 : Int32) dM_sameSeen_133 rfl (by decide) ?_
          refine g_goto 138 dM_sameSeen_134 (by decide) ?_
          refine g_istore_n 139 (i := 2) [some (.ref v0), some (.int v1), some (.int (1 : Int32)), some (.int v3), some (.long v4), none, some (.long v6), none, some (.int v8)] dM_sameSeen_138 rfl rfl rfl (by decide) ?_
          refine g_iinc 142 [some (.ref v0), some (.int v1), some (.int (1 : Int32)), some (.int (v3 + (1 : Int32))), some (.long v4), none, some (.long v6), none, some (.int v8)] dM_sameSeen_139 rfl rfl (x_inc (1 : Int32) (by decide)) rfl (by decide) ?_
          refine g_goto 27 dM_sameSeen_142 (by decide) ?_
          refine g_less [some (.ref v0), some (.int v1), some (.int (1 : Int32)), some (.int (v3 + (1 : Int32))), none, none, none, none, none] ⟨rfl, rfl, rfl, rfl, trivial⟩ ?_
          exact hk27 _ _ _ _ h
        · rw [if_neg c5] at h
          refine g_if_ne_t 137 dM_sameSeen_130 (by decide) c5 ?_
          refine g_iconst 138 (0 : Int32) dM_sameSeen_137 rfl (by decide) ?_
          refine g_istore_n 139 (i := 2) [some (.ref v0), some (.int v1), some (.int (0 : Int32)), some (.int v3), some (.long v4), none, some (.long v6), none, some (.int v8)] dM_sameSeen_138 rfl rfl rfl (by decide) ?_
          refine g_iinc 142 [some (.ref v0), some (.int v1), some (.int (0 : Int32)), some (.int (v3 + (1 : Int32))), some (.long v4), none, some (.long v6), none, some (.int v8)] dM_sameSeen_139 rfl rfl (x_inc (1 : Int32) (by decide)) rfl (by decide) ?_
          refine g_goto 27 dM_sameSeen_142 (by decide) ?_
          refine g_less [some (.ref v0), some (.int v1), some (.int (0 : Int32)), some (.int (v3 + (1 : Int32))), none, none, none, none, none] ⟨rfl, rfl, rfl, rfl, trivial⟩ ?_
          exact hk27 _ _ _ _ h
    · rw [if_neg c3] at h
      refine g_icmp_gt_f 61 121 dM_sameSeen_58 (by decide) rfl c3 ?_
      refine g_iload 63 dM_sameSeen_61 rfl rfl ?_
      refine g_iload_n 64 (i := 1) dM_sameSeen_63 rfl rfl rfl ?_
      refine g_iand 65 dM_sameSeen_64 rfl ?_
      refine g_iload_n 66 (i := 3) dM_sameSeen_65 rfl rfl rfl ?_
      by_cases c6 : (v8 &&& v1) = v3
      · rw [if_pos c6] at h
        refine g_icmp_ne_f 69 84 dM_sameSeen_66 (by decide) rfl c6 ?_
        refine g_lload 71 dM_sameSeen_69 rfl rfl ?_
        refine g_aload_n 72 (i := 0) dM_sameSeen_71 rfl rfl rfl ?_
        refine g_iconst 73 (0 : Int32) dM_sameSeen_72 rfl (by decide) ?_
        refine g_iload 75 dM_sameSeen_73 rfl rfl ?_
        refine g_iconst 76 (0 : Int32) dM_sameSeen_75 rfl (by decide) ?_
        refine g_iconst 77 (0 : Int32) dM_sameSeen_76 rfl (by decide) ?_
        obtain ⟨t7, e7, h⟩ := x_bind h
        refine g_cV 80 (some (.long t7)) w [.int (0 : Int32), .int v8, .int (0 : Int32), .int (0 : Int32)] [.long v4] dM_sameSeen_77 rfl (fun _ hK2 => mM_draws (d - 1) (by omega) e7 hK2) (x_ob_some e1) kM_169 (x_rm (Nat.le_trans (by decide) hd) (by decide)) ⟨Nat.zero_le _, Nat.zero_le _⟩ (Nat.le_of_ble_eq_true rfl) rfl ?_
        refine g_ladd 81 dM_sameSeen_80 rfl ?_
        refine g_goto 86 dM_sameSeen_81 (by decide) ?_
        refine g_lstore 88 [some (.ref v0), some (.int v1), some (.int v2), some (.int v3), some (.long (v4 + t7)), none, some (.long v6), none, some (.int v8)] dM_sameSeen_86 rfl rfl (by decide) ?_
        refine g_iload 90 dM_sameSeen_88 rfl rfl ?_
        refine g_iload_n 91 (i := 1) dM_sameSeen_90 rfl rfl rfl ?_
        refine g_iand 92 dM_sameSeen_91 rfl ?_
        refine g_iload_n 93 (i := 3) dM_sameSeen_92 rfl rfl rfl ?_
        by_cases c8 : (v8 &&& v1) = v3
        · rw [if_pos c8] at h
          refine g_icmp_ne_f 96 111 dM_sameSeen_93 (by decide) rfl c8 ?_
          refine g_lload 98 dM_sameSeen_96 rfl rfl ?_
          refine g_aload_n 99 (i := 0) dM_sameSeen_98 rfl rfl rfl ?_
          refine g_iconst 100 (1 : Int32) dM_sameSeen_99 rfl (by decide) ?_
          refine g_iload 102 dM_sameSeen_100 rfl rfl ?_
          refine g_iconst 103 (0 : Int32) dM_sameSeen_102 rfl (by decide) ?_
          refine g_iconst 104 (0 : Int32) dM_sameSeen_103 rfl (by decide) ?_
          obtain ⟨t9, e9, h⟩ := x_bind h
          refine g_cV 107 (some (.long t9)) w [.int (1 : Int32), .int v8, .int (0 : Int32), .int (0 : Int32)] [.long v6] dM_sameSeen_104 rfl (fun _ hK2 => mM_draws (d - 1) (by omega) e9 hK2) (x_ob_some e1) kM_169 (x_rm (Nat.le_trans (by decide) hd) (by decide)) ⟨Nat.zero_le _, Nat.zero_le _⟩ (Nat.le_of_ble_eq_true rfl) rfl ?_
          refine g_ladd 108 dM_sameSeen_107 rfl ?_
          refine g_goto 113 dM_sameSeen_108 (by decide) ?_
          refine g_lstore 115 [some (.ref v0), some (.int v1), some (.int v2), some (.int v3), some (.long (v4 + t7)), none, some (.long (v6 + t9)), none, some (.int v8)] dM_sameSeen_113 rfl rfl (by decide) ?_
          refine g_iinc 118 [some (.ref v0), some (.int v1), some (.int v2), some (.int v3), some (.long (v4 + t7)), none, some (.long (v6 + t9)), none, some (.int (v8 + (1 : Int32)))] dM_sameSeen_115 rfl rfl (x_inc (1 : Int32) (by decide)) rfl (by decide) ?_
          refine g_goto 52 dM_sameSeen_118 (by decide) ?_
          exact ih _ _ _ _ _ _ _ h
        · rw [if_neg c8] at h
          refine g_icmp_ne_t 111 dM_sameSeen_93 (by decide) c8 ?_
          refine g_lload 113 dM_sameSeen_111 rfl rfl ?_
          refine g_lstore 115 [some (.ref v0), some (.int v1), some (.int v2), some (.int v3), some (.long (v4 + t7)), none, some (.long v6), none, some (.int v8)] dM_sameSeen_113 rfl rfl (by decide) ?_
          refine g_iinc 118 [some (.ref v0), some (.int v1), some (.int v2), some (.int v3), some (.long (v4 + t7)), none, some (.long v6), none, some (.int (v8 + (1 : Int32)))] dM_sameSeen_115 rfl rfl (x_inc (1 : Int32) (by decide)) rfl (by decide) ?_
          refine g_goto 52 dM_sameSeen_118 (by decide) ?_
          exact ih _ _ _ _ _ _ _ h
      · rw [if_neg c6] at h
        refine g_icmp_ne_t 84 dM_sameSeen_66 (by decide) c6 ?_
        refine g_lload 86 dM_sameSeen_84 rfl rfl ?_
        refine g_lstore 88 [some (.ref v0), some (.int v1), some (.int v2), some (.int v3), some (.long v4), none, some (.long v6), none, some (.int v8)] dM_sameSeen_86 rfl rfl (by decide) ?_
        refine g_iload 90 dM_sameSeen_88 rfl rfl ?_
        refine g_iload_n 91 (i := 1) dM_sameSeen_90 rfl rfl rfl ?_
        refine g_iand 92 dM_sameSeen_91 rfl ?_
        refine g_iload_n 93 (i := 3) dM_sameSeen_92 rfl rfl rfl ?_
        by_cases c10 : (v8 &&& v1) = v3
        · rw [if_pos c10] at h
          refine g_icmp_ne_f 96 111 dM_sameSeen_93 (by decide) rfl c10 ?_
          refine g_lload 98 dM_sameSeen_96 rfl rfl ?_
          refine g_aload_n 99 (i := 0) dM_sameSeen_98 rfl rfl rfl ?_
          refine g_iconst 100 (1 : Int32) dM_sameSeen_99 rfl (by decide) ?_
          refine g_iload 102 dM_sameSeen_100 rfl rfl ?_
          refine g_iconst 103 (0 : Int32) dM_sameSeen_102 rfl (by decide) ?_
          refine g_iconst 104 (0 : Int32) dM_sameSeen_103 rfl (by decide) ?_
          obtain ⟨t11, e11, h⟩ := x_bind h
          refine g_cV 107 (some (.long t11)) w [.int (1 : Int32), .int v8, .int (0 : Int32), .int (0 : Int32)] [.long v6] dM_sameSeen_104 rfl (fun _ hK2 => mM_draws (d - 1) (by omega) e11 hK2) (x_ob_some e1) kM_169 (x_rm (Nat.le_trans (by decide) hd) (by decide)) ⟨Nat.zero_le _, Nat.zero_le _⟩ (Nat.le_of_ble_eq_true rfl) rfl ?_
          refine g_ladd 108 dM_sameSeen_107 rfl ?_
          refine g_goto 113 dM_sameSeen_108 (by decide) ?_
          refine g_lstore 115 [some (.ref v0), some (.int v1), some (.int v2), some (.int v3), some (.long v4), none, some (.long (v6 + t11)), none, some (.int v8)] dM_sameSeen_113 rfl rfl (by decide) ?_
          refine g_iinc 118 [some (.ref v0), some (.int v1), some (.int v2), some (.int v3), some (.long v4), none, some (.long (v6 + t11)), none, some (.int (v8 + (1 : Int32)))] dM_sameSeen_115 rfl rfl (x_inc (1 : Int32) (by decide)) rfl (by decide) ?_
          refine g_goto 52 dM_sameSeen_118 (by decide) ?_
          exact ih _ _ _ _ _ _ _ h
        · rw [if_neg c10] at h
          refine g_icmp_ne_t 111 dM_sameSeen_93 (by decide) c10 ?_
          refine g_lload 113 dM_sameSeen_111 rfl rfl ?_
          refine g_lstore 115 [some (.ref v0), some (.int v1), some (.int v2), some (.int v3), some (.long v4), none, some (.long v6), none, some (.int v8)] dM_sameSeen_113 rfl rfl (by decide) ?_
          refine g_iinc 118 [some (.ref v0), some (.int v1), some (.int v2), some (.int v3), some (.long v4), none, some (.long v6), none, some (.int (v8 + (1 : Int32)))] dM_sameSeen_115 rfl rfl (x_inc (1 : Int32) (by decide)) rfl (by decide) ?_
          refine g_goto 52 dM_sameSeen_118 (by decide) ?_
          exact ih _ _ _ _ _ _ _ h
set_option maxHeartbeats 4000000 in
set_option maxRecDepth 100000 in
theorem lM_sameSeen_27 (d : Nat) (hd : 3 ≤ d) {K : Option Value → x_W → Prop} {r : Int32} {w : x_W} (hK : K (some (.int r)) w) : ∀ (n : Nat) (v0 : Nat) (v1 : Int32) (v2 : Int32) (v3 : Int32), fM_sameSeen_27 w n v0 v1 v2 v3 = some r → x_G none yM_sameSeen cM_sameSeen 9 (some .boolean) (x_room d 0 0) (x_QM K 0 0) 27 [some (.ref v0), some (.int v1), some (.int v2), some (.int v3), none, none, none, none, none] [] w 0 0 := by
  intro n
  induction n with
  | zero => intro v0 v1 v2 v3 h; rw [fM_sameSeen_27] at h; cases h
  | succ n ih =>
    intro v0 v1 v2 v3 h
    rw [fM_sameSeen_27] at h
    refine g_iload_n 28 (i := 3) dM_sameSeen_27 rfl rfl rfl ?_
    refine g_aload_n 29 (i := 0) dM_sameSeen_28 rfl rfl rfl ?_
    obtain ⟨_, e1, h⟩ := x_bind h
    obtain ⟨t2, e2, h⟩ := x_bind h
    refine g_cV 32 (some (.int t2)) w [] [.int v3] dM_sameSeen_29 rfl (fun _ hK2 => mM_all (d - 1) (by omega) e2 hK2) (x_ob_some e1) kM_52 (x_rm (Nat.le_trans (by decide) hd) (by decide)) ⟨Nat.zero_le _, Nat.zero_le _⟩ (Nat.le_of_ble_eq_true rfl) rfl ?_
    by_cases c3 : t2 < v3
    · rw [if_pos c3] at h
      refine g_icmp_gt_t 145 dM_sameSeen_32 (by decide) c3 ?_
      refine g_iload_n 146 (i := 2) dM_sameSeen_145 rfl rfl rfl ?_
      have c4 : v2 = 0 ∨ v2 = 1 := by
        by_cases c : v2 = 0 ∨ v2 = 1
        · exact c
        · rw [if_neg c] at h; cases h
      rw [if_pos c4] at h
      obtain rfl := Option.some.inj h
      exact g_zret rfl c4 dM_sameSeen_146 hK
    · rw [if_neg c3] at h
      refine g_icmp_gt_f 35 145 dM_sameSeen_32 (by decide) rfl c3 ?_
      refine g_iload_n 36 (i := 3) dM_sameSeen_35 rfl rfl rfl ?_
      refine g_iload_n 37 (i := 1) dM_sameSeen_36 rfl rfl rfl ?_
      refine g_iconst 38 (-1 : Int32) dM_sameSeen_37 rfl (by decide) ?_
      refine g_ixor 39 dM_sameSeen_38 rfl ?_
      refine g_iand 40 dM_sameSeen_39 rfl ?_
      by_cases c5 : (v3 &&& (v1 ^^^ (-1 : Int32))) = (0 : Int32)
      · rw [if_pos c5] at h
        refine g_if_ne_f 43 139 dM_sameSeen_40 (by decide) rfl c5 ?_
        refine g_lconst 44 (0 : Int64) dM_sameSeen_43 rfl (by decide) ?_
        refine g_lstore 46 [some (.ref v0), some (.int v1), some (.int v2), some (.int v3), some (.long (0 : Int64)), none, none, none, none] dM_sameSeen_44 rfl rfl (by decide) ?_
        refine g_lconst 47 (0 : Int64) dM_sameSeen_46 rfl (by decide) ?_
        refine g_lstore 49 [some (.ref v0), some (.int v1), some (.int v2), some (.int v3), some (.long (0 : Int64)), none, some (.long (0 : Int64)), none, none] dM_sameSeen_47 rfl rfl (by decide) ?_
        refine g_iconst 50 (0 : Int32) dM_sameSeen_49 rfl (by decide) ?_
        refine g_istore 52 [some (.ref v0), some (.int v1), some (.int v2), some (.int v3), some (.long (0 : Int64)), none, some (.long (0 : Int64)), none, some (.int (0 : Int32))] dM_sameSeen_50 rfl rfl (by decide) ?_
        exact lM_sameSeen_52 d hd hK (fun _ _ _ _ hz => ih _ _ _ _ hz) x_F _ _ _ _ _ _ _ h
      · rw [if_neg c5] at h
        refine g_if_ne_t 139 dM_sameSeen_40 (by decide) c5 ?_
        refine g_iinc 142 [some (.ref v0), some (.int v1), some (.int v2), some (.int (v3 + (1 : Int32))), none, none, none, none, none] dM_sameSeen_139 rfl rfl (x_inc (1 : Int32) (by decide)) rfl (by decide) ?_
        refine g_goto 27 dM_sameSeen_142 (by decide) ?_
        exact ih _ _ _ _ h
set_option maxHeartbeats 4000000 in
set_option maxRecDepth 100000 in
theorem mM_sameSeen (d : Nat) (hd : 3 ≤ d) {K : Option Value → x_W → Prop} {w : x_W} {v0 : Nat} {r : Int32} (h : fM_sameSeen w v0 = some r) (hK : K (some (.int r)) w) : x_M yM_sameSeen cM_sameSeen 9 (some .boolean) d 0 0 [.ref v0] w K := by
  refine x_M.of [some (.ref v0), none, none, none, none, none, none, none, none] (by decide) rfl (Nat.le_of_ble_eq_true rfl) ?_
  unfold fM_sameSeen at h
  refine g_aload_n 1 (i := 0) dM_sameSeen_0 rfl rfl rfl ?_
  obtain ⟨_, e1, h⟩ := x_bind h
  obtain ⟨t2, e2, h⟩ := x_bind h
  refine g_cV 4 (some (.int t2)) w [] [] dM_sameSeen_1 rfl (fun _ hK2 => mM_all (d - 1) (by omega) e2 hK2) (x_ob_some e1) kM_52 (x_rm (Nat.le_trans (by decide) hd) (by decide)) ⟨Nat.zero_le _, Nat.zero_le _⟩ (Nat.le_of_ble_eq_true rfl) rfl ?_
  refine g_aload_n 5 (i := 0) dM_sameSeen_4 rfl rfl rfl ?_
  obtain ⟨t3, e3, h⟩ := x_bind h
  refine g_getfR 8 5 3 dM_sameSeen_5 rfl x_in5 tw_2_238 rfl (by decide) e3 ?_
  refine g_iconst 9 (0 : Int32) dM_sameSeen_8 rfl (by decide) ?_
  obtain ⟨t4, e4, h⟩ := x_bind h
  refine g_iald 10 dM_sameSeen_9 rfl e4 ?_
  refine g_iconst 11 (-1 : Int32) dM_sameSeen_10 rfl (by decide) ?_
  refine g_ixor 12 dM_sameSeen_11 rfl ?_
  refine g_iand 13 dM_sameSeen_12 rfl ?_
  refine g_aload_n 14 (i := 0) dM_sameSeen_13 rfl rfl rfl ?_
  refine g_getfR 17 5 3 dM_sameSeen_14 rfl x_in5 tw_2_238 rfl (by decide) e3 ?_
  refine g_iconst 18 (1 : Int32) dM_sameSeen_17 rfl (by decide) ?_
  obtain ⟨t5, e5, h⟩ := x_bind h
  refine g_iald 19 dM_sameSeen_18 rfl e5 ?_
  refine g_iconst 20 (-1 : Int32) dM_sameSeen_19 rfl (by decide) ?_
  refine g_ixor 21 dM_sameSeen_20 rfl ?_
  refine g_iand 22 dM_sameSeen_21 rfl ?_
  refine g_istore_n 23 (i := 1) [some (.ref v0), some (.int ((t2 &&& (t4 ^^^ (-1 : Int32))) &&& (t5 ^^^ (-1 : Int32)))), none, none, none, none, none, none, none] dM_sameSeen_22 rfl rfl rfl (by decide) ?_
  refine g_iconst 24 (1 : Int32) dM_sameSeen_23 rfl (by decide) ?_
  refine g_istore_n 25 (i := 2) [some (.ref v0), some (.int ((t2 &&& (t4 ^^^ (-1 : Int32))) &&& (t5 ^^^ (-1 : Int32)))), some (.int (1 : Int32)), none, none, none, none, none, none] dM_sameSeen_24 rfl rfl rfl (by decide) ?_
  refine g_iconst 26 (0 : Int32) dM_sameSeen_25 rfl (by decide) ?_
  refine g_istore_n 27 (i := 3) [some (.ref v0), some (.int ((t2 &&& (t4 ^^^ (-1 : Int32))) &&& (t5 ^^^ (-1 : Int32)))), some (.int (1 : Int32)), some (.int (0 : Int32)), none, none, none, none, none] dM_sameSeen_26 rfl rfl rfl (by decide) ?_
  exact lM_sameSeen_27 d hd hK x_F _ _ _ _ h
/-! ActSurgeryModel.sameShape()Z: level X -/
theorem dM_sameShape_0 : decode cM_sameShape 0 = .ok (.iconst 0, 1) := by decide +kernel
theorem dM_sameShape_1 : decode cM_sameShape 1 = .ok (.istore_n 1, 1) := by decide +kernel
theorem dM_sameShape_2 : decode cM_sameShape 2 = .ok (.iload_n 1, 1) := by decide +kernel
theorem dM_sameShape_3 : decode cM_sameShape 3 = .ok (.bipush 6, 2) := by decide +kernel
theorem dM_sameShape_5 : decode cM_sameShape 5 = .ok (.if_icmp .ge 24, 3) := by decide +kernel
theorem dM_sameShape_8 : decode cM_sameShape 8 = .ok (.aload_n 0, 1) := by decide +kernel
theorem dM_sameShape_9 : decode cM_sameShape 9 = .ok (.getfield 31, 3) := by decide +kernel
theorem dM_sameShape_12 : decode cM_sameShape 12 = .ok (.iload_n 1, 1) := by decide +kernel
theorem dM_sameShape_13 : decode cM_sameShape 13 = .ok (.aload_n 0, 1) := by decide +kernel
theorem dM_sameShape_14 : decode cM_sameShape 14 = .ok (.getfield 13, 3) := by decide +kernel
theorem dM_sameShape_17 : decode cM_sameShape 17 = .ok (.bipush 6, 2) := by decide +kernel
theorem dM_sameShape_19 : decode cM_sameShape 19 = .ok (.iload_n 1, 1) := by decide +kernel
theorem dM_sameShape_20 : decode cM_sameShape 20 = .ok (.iadd, 1) := by decide +kernel
theorem dM_sameShape_21 : decode cM_sameShape 21 = .ok (.iaload, 1) := by decide +kernel
theorem dM_sameShape_22 : decode cM_sameShape 22 = .ok (.iastore, 1) := by decide +kernel
theorem dM_sameShape_23 : decode cM_sameShape 23 = .ok (.iinc 1 1, 3) := by decide +kernel
theorem dM_sameShape_26 : decode cM_sameShape 26 = .ok (.goto (-24), 3) := by decide +kernel
theorem dM_sameShape_29 : decode cM_sameShape 29 = .ok (.aload_n 0, 1) := by decide +kernel
theorem dM_sameShape_30 : decode cM_sameShape 30 = .ok (.aload_n 0, 1) := by decide +kernel
theorem dM_sameShape_31 : decode cM_sameShape 31 = .ok (.invokevirtual 44, 3) := by decide +kernel
theorem dM_sameShape_34 : decode cM_sameShape 34 = .ok (.invokevirtual 144, 3) := by decide +kernel
theorem dM_sameShape_37 : decode cM_sameShape 37 = .ok (.ireturn, 1) := by decide +kernel
def fM_sameShape_2  : Nat → x_W → Nat → Int32 → Option (Int32 × x_W)
  | 0, _, _, _ => none
  | n + 1, w, v0, v1 =>
    if (6 : Int32) ≤ v1 then
      (x_ob w v0 5).bind fun _ =>
      (fM_n w v0).bind fun t3 =>
      (fM_hasShape w v0 t3).bind fun t4 =>
      if t4 = 0 ∨ t4 = 1 then some (t4, w) else none
    else
      (x_fr w v0 5 9).bind fun t6 =>
      (x_fr w v0 5 1).bind fun t7 =>
      (x_ai w t7 ((6 : Int32) + v1)).bind fun t8 =>
      (x_pa w t6 v1 t8).bind fun w9 =>
      fM_sameShape_2 n w9 v0 (v1 + (1 : Int32))
def fM_sameShape  (w : x_W) (v0 : Nat) : Option (Int32 × x_W) :=
  fM_sameShape_2 x_F w v0 (0 : Int32)
set_option maxHeartbeats 4000000 in
set_option maxRecDepth 100000 in
theorem lM_sameShape_2 (d : Nat) (hd : 4 ≤ d) {K : Option Value → x_W → Prop} {r : (Int32 × x_W)} (hK : K (some (.int r.1)) r.2) : ∀ (n : Nat) (w : x_W) (v0 : Nat) (v1 : Int32), fM_sameShape_2 n w v0 v1 = some r → x_G none yM_sameShape cM_sameShape 2 (some .boolean) (x_room d 0 0) (x_QM K 0 0) 2 [some (.ref v0), some (.int v1)] [] w 0 0 := by
  intro n
  induction n with
  | zero => intro w v0 v1 h; rw [fM_sameShape_2] at h; cases h
  | succ n ih =>
    intro w v0 v1 h
    rw [fM_sameShape_2] at h
    refine g_iload_n 3 (i := 1) dM_sameShape_2 rfl rfl rfl ?_
    refine g_bipush 5 (6 : Int32) dM_sameShape_3 rfl (by decide) ?_
    by_cases c1 : (6 : Int32) ≤ v1
    · rw [if_pos c1] at h
      refine g_icmp_ge_t 29 dM_sameShape_5 (by decide) c1 ?_
      refine g_aload_n 30 (i := 0) dM_sameShape_29 rfl rfl rfl ?_
      refine g_aload_n 31 (i := 0) dM_sameShape_30 rfl rfl rfl ?_
      obtain ⟨_, e2, h⟩ := x_bind h
      obtain ⟨t3, e3, h⟩ := x_bind h
      refine g_cV 34 (some (.int t3)) w [] [.ref v0] dM_sameShape_31 rfl (fun _ hK2 => mM_n (d - 1) (by omega) e3 hK2) (x_ob_some e2) kM_44 (x_rm (Nat.le_trans (by decide) hd) (by decide)) ⟨Nat.zero_le _, Nat.zero_le _⟩ (Nat.le_of_ble_eq_true rfl) rfl ?_
      obtain ⟨t4, e4, h⟩ := x_bind h
      refine g_cV 37 (some (.int t4)) w [.int t3] [] dM_sameShape_34 rfl (fun _ hK2 => mM_hasShape (d - 1) (by omega) e4 hK2) (x_ob_some e2) kM_144 (x_rm (Nat.le_trans (by decide) hd) (by decide)) ⟨Nat.zero_le _, Nat.zero_le _⟩ (Nat.le_of_ble_eq_true rfl) rfl ?_
      have c5 : t4 = 0 ∨ t4 = 1 := by
        by_cases c : t4 = 0 ∨ t4 = 1
        · exact c
        · rw [if_neg c] at h; cases h
      rw [if_pos c5] at h
      obtain rfl := Option.some.inj h
      exact g_zret rfl c5 dM_sameShape_37 hK
    · rw [if_neg c1] at h
      refine g_icmp_ge_f 8 29 dM_sameShape_5 (by decide) rfl c1 ?_
      refine g_aload_n 9 (i := 0) dM_sameShape_8 rfl rfl rfl ?_
      obtain ⟨t6, e6, h⟩ := x_bind h
      refine g_getfR 12 5 9 dM_sameShape_9 rfl x_in5 tw_3_4 rfl (by decide) e6 ?_
      refine g_iload_n 13 (i := 1) dM_sameShape_12 rfl rfl rfl ?_
      refine g_aload_n 14 (i := 0) dM_sameShape_13 rfl rfl rfl ?_
      obtain ⟨t7, e7, h⟩ := x_bind h
      refine g_getfR 17 5 1 dM_sameShape_14 rfl x_in5 tw_2_236 rfl (by decide) e7 ?_
      refine g_bipush 19 (6 : Int32) dM_sameShape_17 rfl (by decide) ?_
      refine g_iload_n 20 (i := 1) dM_sameShape_19 rfl rfl rfl ?_
      refine g_iadd 21 dM_sameShape_20 rfl ?_
      obtain ⟨t8, e8, h⟩ := x_bind h
      refine g_iald 22 dM_sameShape_21 rfl e8 ?_
      obtain ⟨w9, e9, h⟩ := x_bind h
      refine g_iast 23 dM_sameShape_22 rfl e9 ?_
      refine g_iinc 26 [some (.ref v0), some (.int (v1 + (1 : Int32)))] dM_sameShape_23 rfl rfl (x_inc (1 : Int32) (by decide)) rfl (by decide) ?_
      refine g_goto 2 dM_sameShape_26 (by decide) ?_
      exact ih _ _ _ h
set_option maxHeartbeats 4000000 in
set_option maxRecDepth 100000 in
theorem mM_sameShape (d : Nat) (hd : 4 ≤ d) {K : Option Value → x_W → Prop} {w : x_W} {v0 : Nat} {r : (Int32 × x_W)} (h : fM_sameShape w v0 = some r) (hK : K (some (.int r.1)) r.2) : x_M yM_sameShape cM_sameShape 2 (some .boolean) d 0 0 [.ref v0] w K := by
  refine x_M.of [some (.ref v0), none] (by decide) rfl (Nat.le_of_ble_eq_true rfl) ?_
  unfold fM_sameShape at h
  refine g_iconst 1 (0 : Int32) dM_sameShape_0 rfl (by decide) ?_
  refine g_istore_n 2 (i := 1) [some (.ref v0), some (.int (0 : Int32))] dM_sameShape_1 rfl rfl rfl (by decide) ?_
  exact lM_sameShape_2 d hd hK x_F _ _ _ h
/-! ActSurgeryModel.alike(I)I: level X -/
theorem dM_alike_0 : decode cM_alike 0 = .ok (.iload_n 1, 1) := by decide +kernel
theorem dM_alike_1 : decode cM_alike 1 = .ok (.iconst 0, 1) := by decide +kernel
theorem dM_alike_2 : decode cM_alike 2 = .ok (.iconst 3, 1) := by decide +kernel
theorem dM_alike_3 : decode cM_alike 3 = .ok (.invokestatic 48, 3) := by decide +kernel
theorem dM_alike_6 : decode cM_alike 6 = .ok (.ifCond .ne 6, 3) := by decide +kernel
theorem dM_alike_9 : decode cM_alike 9 = .ok (.bipush (-2), 2) := by decide +kernel
theorem dM_alike_11 : decode cM_alike 11 = .ok (.ireturn, 1) := by decide +kernel
theorem dM_alike_12 : decode cM_alike 12 = .ok (.aload_n 0, 1) := by decide +kernel
theorem dM_alike_13 : decode cM_alike 13 = .ok (.getfield 7, 3) := by decide +kernel
theorem dM_alike_16 : decode cM_alike 16 = .ok (.iconst 0, 1) := by decide +kernel
theorem dM_alike_17 : decode cM_alike 17 = .ok (.iaload, 1) := by decide +kernel
theorem dM_alike_18 : decode cM_alike 18 = .ok (.aload_n 0, 1) := by decide +kernel
theorem dM_alike_19 : decode cM_alike 19 = .ok (.getfield 7, 3) := by decide +kernel
theorem dM_alike_22 : decode cM_alike 22 = .ok (.iconst 1, 1) := by decide +kernel
theorem dM_alike_23 : decode cM_alike 23 = .ok (.iaload, 1) := by decide +kernel
theorem dM_alike_24 : decode cM_alike 24 = .ok (.if_icmp .eq 5, 3) := by decide +kernel
theorem dM_alike_27 : decode cM_alike 27 = .ok (.iconst 0, 1) := by decide +kernel
theorem dM_alike_28 : decode cM_alike 28 = .ok (.ireturn, 1) := by decide +kernel
theorem dM_alike_29 : decode cM_alike 29 = .ok (.iload_n 1, 1) := by decide +kernel
theorem dM_alike_30 : decode cM_alike 30 = .ok (.ifCond .ne 10, 3) := by decide +kernel
theorem dM_alike_33 : decode cM_alike 33 = .ok (.aload_n 0, 1) := by decide +kernel
theorem dM_alike_34 : decode cM_alike 34 = .ok (.invokevirtual 191, 3) := by decide +kernel
theorem dM_alike_37 : decode cM_alike 37 = .ok (.goto 33, 3) := by decide +kernel
theorem dM_alike_40 : decode cM_alike 40 = .ok (.iload_n 1, 1) := by decide +kernel
theorem dM_alike_41 : decode cM_alike 41 = .ok (.iconst 1, 1) := by decide +kernel
theorem dM_alike_42 : decode cM_alike 42 = .ok (.if_icmp .ne 12, 3) := by decide +kernel
theorem dM_alike_45 : decode cM_alike 45 = .ok (.aload_n 0, 1) := by decide +kernel
theorem dM_alike_46 : decode cM_alike 46 = .ok (.iconst 0, 1) := by decide +kernel
theorem dM_alike_47 : decode cM_alike 47 = .ok (.iconst 0, 1) := by decide +kernel
theorem dM_alike_48 : decode cM_alike 48 = .ok (.invokevirtual 188, 3) := by decide +kernel
theorem dM_alike_51 : decode cM_alike 51 = .ok (.goto 19, 3) := by decide +kernel
theorem dM_alike_54 : decode cM_alike 54 = .ok (.iload_n 1, 1) := by decide +kernel
theorem dM_alike_55 : decode cM_alike 55 = .ok (.iconst 2, 1) := by decide +kernel
theorem dM_alike_56 : decode cM_alike 56 = .ok (.if_icmp .ne 10, 3) := by decide +kernel
theorem dM_alike_59 : decode cM_alike 59 = .ok (.aload_n 0, 1) := by decide +kernel
theorem dM_alike_60 : decode cM_alike 60 = .ok (.invokevirtual 195, 3) := by decide +kernel
theorem dM_alike_63 : decode cM_alike 63 = .ok (.goto 7, 3) := by decide +kernel
theorem dM_alike_66 : decode cM_alike 66 = .ok (.aload_n 0, 1) := by decide +kernel
theorem dM_alike_67 : decode cM_alike 67 = .ok (.invokevirtual 198, 3) := by decide +kernel
theorem dM_alike_70 : decode cM_alike 70 = .ok (.istore_n 2, 1) := by decide +kernel
theorem dM_alike_71 : decode cM_alike 71 = .ok (.iload_n 2, 1) := by decide +kernel
theorem dM_alike_72 : decode cM_alike 72 = .ok (.ifCond .eq 7, 3) := by decide +kernel
theorem dM_alike_75 : decode cM_alike 75 = .ok (.iconst 1, 1) := by decide +kernel
theorem dM_alike_76 : decode cM_alike 76 = .ok (.goto 4, 3) := by decide +kernel
theorem dM_alike_79 : decode cM_alike 79 = .ok (.iconst 0, 1) := by decide +kernel
theorem dM_alike_80 : decode cM_alike 80 = .ok (.ireturn, 1) := by decide +kernel
theorem tw_4_23 : (Jvm.Cond.instanceMethod ({ cls := "ActSurgeryModel", name := "sameShape", desc := "()Z" } : Jvm.MethodName)) ∈ x_GT := x_t4 23 rfl rfl
theorem tws_62 : (Jvm.Cond.selects "ActSurgeryModel" ({ cls := "ActSurgeryModel", name := "sameShape", desc := "()Z" } : Jvm.MethodName) ({ cls := "ActSurgeryModel", name := "sameShape", desc := "()Z" } : Jvm.MethodName)) ∈ x_GT := x_ts 62 rfl rfl
theorem tw_4_24 : (Jvm.Cond.code ({ cls := "ActSurgeryModel", name := "sameShape", desc := "()Z" } : Jvm.MethodName) prog_7_method_65_code (2 : Nat) (Option.some Jvm.ClassFile.FieldType.boolean)) ∈ x_GT := x_t4 24 rfl rfl
theorem tw_4_21 : (Jvm.Cond.methodLink "ActSurgeryModel" (191 : Nat) ({ cls := "ActSurgeryModel", name := "sameShape", desc := "()Z" } : Jvm.MethodName)) ∈ x_GT := x_t4 21 rfl rfl
theorem kM_191 : x_kV "ActSurgeryModel" 191 yM_sameShape cM_sameShape 2 (some .boolean) 0 5 := ⟨tw_4_23, tws_62, tw_4_24, tw_1_6, tw_4_21, (by decide +kernel), rfl⟩
theorem tw_4_31 : (Jvm.Cond.instanceMethod ({ cls := "ActSurgeryModel", name := "sameWhatever", desc := "()Z" } : Jvm.MethodName)) ∈ x_GT := x_t4 31 rfl rfl
theorem tws_64 : (Jvm.Cond.selects "ActSurgeryModel" ({ cls := "ActSurgeryModel", name := "sameWhatever", desc := "()Z" } : Jvm.MethodName) ({ cls := "ActSurgeryModel", name := "sameWhatever", desc := "()Z" } : Jvm.MethodName)) ∈ x_GT := x_ts 64 rfl rfl
theorem tw_4_32 : (Jvm.Cond.code ({ cls := "ActSurgeryModel", name := "sameWhatever", desc := "()Z" } : Jvm.MethodName) prog_7_method_63_code (3 : Nat) (Option.some Jvm.ClassFile.FieldType.boolean)) ∈ x_GT := x_t4 32 rfl rfl
theorem tw_4_29 : (Jvm.Cond.methodLink "ActSurgeryModel" (195 : Nat) ({ cls := "ActSurgeryModel", name := "sameWhatever", desc := "()Z" } : Jvm.MethodName)) ∈ x_GT := x_t4 29 rfl rfl
theorem kM_195 : x_kV "ActSurgeryModel" 195 yM_sameWhatever cM_sameWhatever 3 (some .boolean) 0 5 := ⟨tw_4_31, tws_64, tw_4_32, tw_1_6, tw_4_29, (by decide +kernel), rfl⟩
theorem tw_4_35 : (Jvm.Cond.instanceMethod ({ cls := "ActSurgeryModel", name := "sameSeen", desc := "()Z" } : Jvm.MethodName)) ∈ x_GT := x_t4 35 rfl rfl
theorem tws_65 : (Jvm.Cond.selects "ActSurgeryModel" ({ cls := "ActSurgeryModel", name := "sameSeen", desc := "()Z" } : Jvm.MethodName) ({ cls := "ActSurgeryModel", name := "sameSeen", desc := "()Z" } : Jvm.MethodName)) ∈ x_GT := x_ts 65 rfl rfl
theorem tw_4_36 : (Jvm.Cond.code ({ cls := "ActSurgeryModel", name := "sameSeen", desc := "()Z" } : Jvm.MethodName) prog_7_method_64_code (9 : Nat) (Option.some Jvm.ClassFile.FieldType.boolean)) ∈ x_GT := x_t4 36 rfl rfl
theorem tw_4_33 : (Jvm.Cond.methodLink "ActSurgeryModel" (198 : Nat) ({ cls := "ActSurgeryModel", name := "sameSeen", desc := "()Z" } : Jvm.MethodName)) ∈ x_GT := x_t4 33 rfl rfl
theorem kM_198 : x_kV "ActSurgeryModel" 198 yM_sameSeen cM_sameSeen 9 (some .boolean) 0 5 := ⟨tw_4_35, tws_65, tw_4_36, tw_1_6, tw_4_33, (by decide +kernel), rfl⟩
def fM_alike  (w : x_W) (v0 : Nat) (v1 : Int32) : Option (Int32 × x_W) :=
  if (fM_isIn v1 (0 : Int32) (3 : Int32)) = (0 : Int32) then
    some ((-2 : Int32), w)
  else
    (x_fr w v0 5 0).bind fun t2 =>
    (x_ai w t2 (0 : Int32)).bind fun t3 =>
    (x_ai w t2 (1 : Int32)).bind fun t4 =>
    if t3 = t4 then
      if v1 = (0 : Int32) then
        (fM_sameShape w v0).bind fun q7 =>
        if q7.1 = (0 : Int32) then
          some ((0 : Int32), q7.2)
        else
          some ((1 : Int32), q7.2)
      else
        if v1 = (1 : Int32) then
          (fM_sameOdds w v0 (0 : Int32) (0 : Int32)).bind fun t10 =>
          if t10 = (0 : Int32) then
            some ((0 : Int32), w)
          else
            some ((1 : Int32), w)
        else
          if v1 = (2 : Int32) then
            (fM_sameWhatever w v0).bind fun t13 =>
            if t13 = (0 : Int32) then
              some ((0 : Int32), w)
            else
              some ((1 : Int32), w)
          else
            (fM_sameSeen w v0).bind fun t15 =>
            if t15 = (0 : Int32) then
              some ((0 : Int32), w)
            else
              some ((1 : Int32), w)
    else
      some ((0 : Int32), w)
set_option maxHeartbeats 4000000 in
set_option maxRecDepth 100000 in
theorem mM_alike (d : Nat) (hd : 5 ≤ d) {K : Option Value → x_W → Prop} {w : x_W} {v0 : Nat} {v1 : Int32} {r : (Int32 × x_W)} (h : fM_alike w v0 v1 = some r) (hK : K (some (.int r.1)) r.2) : x_M yM_alike cM_alike 3 (some .int) d 0 0 [.ref v0, .int v1] w K := by
  refine x_M.of [some (.ref v0), some (.int v1), none] (by decide) rfl (Nat.le_of_ble_eq_true rfl) ?_
  unfold fM_alike at h
  refine g_iload_n 1 (i := 1) dM_alike_0 rfl rfl rfl ?_
  refine g_iconst 2 (0 : Int32) dM_alike_1 rfl (by decide) ?_
  refine g_iconst 3 (3 : Int32) dM_alike_2 rfl (by decide) ?_
  refine g_cS 6 (some (.int (fM_isIn v1 (0 : Int32) (3 : Int32)))) w [.int v1, .int (0 : Int32), .int (3 : Int32)] [] dM_alike_3 rfl (fun _ hK2 => mM_isIn (d - 1) (by omega) rfl hK2) kM_48 (x_rm (Nat.le_trans (by decide) hd) (by decide)) ⟨Nat.zero_le _, Nat.zero_le _⟩ (Nat.le_of_ble_eq_true rfl) rfl ?_
  by_cases c1 : (fM_isIn v1 (0 : Int32) (3 : Int32)) = (0 : Int32)
  · rw [if_pos c1] at h
    refine g_if_ne_f 9 12 dM_alike_6 (by decide) rfl c1 ?_
    refine g_bipush 11 (-2 : Int32) dM_alike_9 rfl (by decide) ?_
    obtain rfl := Option.some.inj h
    exact g_iret rfl dM_alike_11 hK
  · rw [if_neg c1] at h
    refine g_if_ne_t 12 dM_alike_6 (by decide) c1 ?_
    refine g_aload_n 13 (i := 0) dM_alike_12 rfl rfl rfl ?_
    obtain ⟨t2, e2, h⟩ := x_bind h
    refine g_getfR 16 5 0 dM_alike_13 rfl x_in5 tw_2_235 rfl (by decide) e2 ?_
    refine g_iconst 17 (0 : Int32) dM_alike_16 rfl (by decide) ?_
    obtain ⟨t3, e3, h⟩ := x_bind h
    refine g_iald 18 dM_alike_17 rfl e3 ?_
    refine g_aload_n 19 (i := 0) dM_alike_18 rfl rfl rfl ?_
    refine g_getfR 22 5 0 dM_alike_19 rfl x_in5 tw_2_235 rfl (by decide) e2 ?_
    refine g_iconst 23 (1 : Int32) dM_alike_22 rfl (by decide) ?_
    obtain ⟨t4, e4, h⟩ := x_bind h
    refine g_iald 24 dM_alike_23 rfl e4 ?_
    by_cases c5 : t3 = t4
    · rw [if_pos c5] at h
      refine g_icmp_eq_t 29 dM_alike_24 (by decide) c5 ?_
      refine g_iload_n 30 (i := 1) dM_alike_29 rfl rfl rfl ?_
      by_cases c6 : v1 = (0 : Int32)
      · rw [if_pos c6] at h
        refine g_if_ne_f 33 40 dM_alike_30 (by decide) rfl c6 ?_
        refine g_aload_n 34 (i := 0) dM_alike_33 rfl rfl rfl ?_
        obtain ⟨q7, e7, h⟩ := x_bind h
        refine g_cV 37 (some (.int q7.1)) q7.2 [] [] dM_alike_34 rfl (fun _ hK2 => mM_sameShape (d - 1) (by omega) e7 hK2) (x_fr_ob e2) kM_191 (x_rm (Nat.le_trans (by decide) hd) (by decide)) ⟨Nat.zero_le _, Nat.zero_le _⟩ (Nat.le_of_ble_eq_true rfl) rfl ?_
        refine g_goto 70 dM_alike_37 (by decide) ?_
        refine g_istore_n 71 (i := 2) [some (.ref v0), some (.int v1), some (.int q7.1)] dM_alike_70 rfl rfl rfl (by decide) ?_
        refine g_iload_n 72 (i := 2) dM_alike_71 rfl rfl rfl ?_
        by_cases c8 : q7.1 = (0 : Int32)
        · rw [if_pos c8] at h
          refine g_if_eq_t 79 dM_alike_72 (by decide) c8 ?_
          refine g_iconst 80 (0 : Int32) dM_alike_79 rfl (by decide) ?_
          obtain rfl := Option.some.inj h
          exact g_iret rfl dM_alike_80 hK
        · rw [if_neg c8] at h
          refine g_if_eq_f 75 79 dM_alike_72 (by decide) rfl c8 ?_
          refine g_iconst 76 (1 : Int32) dM_alike_75 rfl (by decide) ?_
          refine g_goto 80 dM_alike_76 (by decide) ?_
          obtain rfl := Option.some.inj h
          exact g_iret rfl dM_alike_80 hK
      · rw [if_neg c6] at h
        refine g_if_ne_t 40 dM_alike_30 (by decide) c6 ?_
        refine g_iload_n 41 (i := 1) dM_alike_40 rfl rfl rfl ?_
        refine g_iconst 42 (1 : Int32) dM_alike_41 rfl (by decide) ?_
        by_cases c9 : v1 = (1 : Int32)
        · rw [if_pos c9] at h
          refine g_icmp_ne_f 45 54 dM_alike_42 (by decide) rfl c9 ?_
          refine g_aload_n 46 (i := 0) dM_alike_45 rfl rfl rfl ?_
          refine g_iconst 47 (0 : Int32) dM_alike_46 rfl (by decide) ?_
          refine g_iconst 48 (0 : Int32) dM_alike_47 rfl (by decide) ?_
          obtain ⟨t10, e10, h⟩ := x_bind h
          refine g_cV 51 (some (.int t10)) w [.int (0 : Int32), .int (0 : Int32)] [] dM_alike_48 rfl (fun _ hK2 => mM_sameOdds (d - 1) (by omega) e10 hK2) (x_fr_ob e2) kM_188 (x_rm (Nat.le_trans (by decide) hd) (by decide)) ⟨Nat.zero_le _, Nat.zero_le _⟩ (Nat.le_of_ble_eq_true rfl) rfl ?_
          refine g_goto 70 dM_alike_51 (by decide) ?_
          refine g_istore_n 71 (i := 2) [some (.ref v0), some (.int v1), some (.int t10)] dM_alike_70 rfl rfl rfl (by decide) ?_
          refine g_iload_n 72 (i := 2) dM_alike_71 rfl rfl rfl ?_
          by_cases c11 : t10 = (0 : Int32)
          · rw [if_pos c11] at h
            refine g_if_eq_t 79 dM_alike_72 (by decide) c11 ?_
            refine g_iconst 80 (0 : Int32) dM_alike_79 rfl (by decide) ?_
            obtain rfl := Option.some.inj h
            exact g_iret rfl dM_alike_80 hK
          · rw [if_neg c11] at h
            refine g_if_eq_f 75 79 dM_alike_72 (by decide) rfl c11 ?_
            refine g_iconst 76 (1 : Int32) dM_alike_75 rfl (by decide) ?_
            refine g_goto 80 dM_alike_76 (by decide) ?_
            obtain rfl := Option.some.inj h
            exact g_iret rfl dM_alike_80 hK
        · rw [if_neg c9] at h
          refine g_icmp_ne_t 54 dM_alike_42 (by decide) c9 ?_
          refine g_iload_n 55 (i := 1) dM_alike_54 rfl rfl rfl ?_
          refine g_iconst 56 (2 : Int32) dM_alike_55 rfl (by decide) ?_
          by_cases c12 : v1 = (2 : Int32)
          · rw [if_pos c12] at h
            refine g_icmp_ne_f 59 66 dM_alike_56 (by decide) rfl c12 ?_
            refine g_aload_n 60 (i := 0) dM_alike_59 rfl rfl rfl ?_
            obtain ⟨t13, e13, h⟩ := x_bind h
            refine g_cV 63 (some (.int t13)) w [] [] dM_alike_60 rfl (fun _ hK2 => mM_sameWhatever (d - 1) (by omega) e13 hK2) (x_fr_ob e2) kM_195 (x_rm (Nat.le_trans (by decide) hd) (by decide)) ⟨Nat.zero_le _, Nat.zero_le _⟩ (Nat.le_of_ble_eq_true rfl) rfl ?_
            refine g_goto 70 dM_alike_63 (by decide) ?_
            refine g_istore_n 71 (i := 2) [some (.ref v0), some (.int v1), some (.int t13)] dM_alike_70 rfl rfl rfl (by decide) ?_
            refine g_iload_n 72 (i := 2) dM_alike_71 rfl rfl rfl ?_
            by_cases c14 : t13 = (0 : Int32)
            · rw [if_pos c14] at h
              refine g_if_eq_t 79 dM_alike_72 (by decide) c14 ?_
              refine g_iconst 80 (0 : Int32) dM_alike_79 rfl (by decide) ?_
              obtain rfl := Option.some.inj h
              exact g_iret rfl dM_alike_80 hK
            · rw [if_neg c14] at h
              refine g_if_eq_f 75 79 dM_alike_72 (by decide) rfl c14 ?_
              refine g_iconst 76 (1 : Int32) dM_alike_75 rfl (by decide) ?_
              refine g_goto 80 dM_alike_76 (by decide) ?_
              obtain rfl := Option.some.inj h
              exact g_iret rfl dM_alike_80 hK
          · rw [if_neg c12] at h
            refine g_icmp_ne_t 66 dM_alike_56 (by decide) c12 ?_
            refine g_aload_n 67 (i := 0) dM_alike_66 rfl rfl rfl ?_
            obtain ⟨t15, e15, h⟩ := x_bind h
            refine g_cV 70 (some (.int t15)) w [] [] dM_alike_67 rfl (fun _ hK2 => mM_sameSeen (d - 1) (by omega) e15 hK2) (x_fr_ob e2) kM_198 (x_rm (Nat.le_trans (by decide) hd) (by decide)) ⟨Nat.zero_le _, Nat.zero_le _⟩ (Nat.le_of_ble_eq_true rfl) rfl ?_
            refine g_istore_n 71 (i := 2) [some (.ref v0), some (.int v1), some (.int t15)] dM_alike_70 rfl rfl rfl (by decide) ?_
            refine g_iload_n 72 (i := 2) dM_alike_71 rfl rfl rfl ?_
            by_cases c16 : t15 = (0 : Int32)
            · rw [if_pos c16] at h
              refine g_if_eq_t 79 dM_alike_72 (by decide) c16 ?_
              refine g_iconst 80 (0 : Int32) dM_alike_79 rfl (by decide) ?_
              obtain rfl := Option.some.inj h
              exact g_iret rfl dM_alike_80 hK
            · rw [if_neg c16] at h
              refine g_if_eq_f 75 79 dM_alike_72 (by decide) rfl c16 ?_
              refine g_iconst 76 (1 : Int32) dM_alike_75 rfl (by decide) ?_
              refine g_goto 80 dM_alike_76 (by decide) ?_
              obtain rfl := Option.some.inj h
              exact g_iret rfl dM_alike_80 hK
    · rw [if_neg c5] at h
      refine g_icmp_eq_f 27 29 dM_alike_24 (by decide) rfl c5 ?_
      refine g_iconst 28 (0 : Int32) dM_alike_27 rfl (by decide) ?_
      obtain rfl := Option.some.inj h
      exact g_iret rfl dM_alike_28 hK
