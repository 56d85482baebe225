/-! ActSurgeryModel.divisor(JJ)J: level N -/
theorem dM_divisor_0 : decode cM_divisor 0 = .ok (.lload_n 0, 1) := by decide +kernel
theorem dM_divisor_1 : decode cM_divisor 1 = .ok (.lstore 4, 2) := by decide +kernel
theorem dM_divisor_3 : decode cM_divisor 3 = .ok (.lload_n 2, 1) := by decide +kernel
theorem dM_divisor_4 : decode cM_divisor 4 = .ok (.lstore 6, 2) := by decide +kernel
theorem dM_divisor_6 : decode cM_divisor 6 = .ok (.lload 6, 2) := by decide +kernel
theorem dM_divisor_8 : decode cM_divisor 8 = .ok (.lconst 0, 1) := by decide +kernel
theorem dM_divisor_9 : decode cM_divisor 9 = .ok (.lcmp, 1) := by decide +kernel
theorem dM_divisor_10 : decode cM_divisor 10 = .ok (.ifCond .eq 21, 3) := by decide +kernel
theorem dM_divisor_13 : decode cM_divisor 13 = .ok (.lload 4, 2) := by decide +kernel
theorem dM_divisor_15 : decode cM_divisor 15 = .ok (.lload 6, 2) := by decide +kernel
theorem dM_divisor_17 : decode cM_divisor 17 = .ok (.lrem, 1) := by decide +kernel
theorem dM_divisor_18 : decode cM_divisor 18 = .ok (.lstore 8, 2) := by decide +kernel
theorem dM_divisor_20 : decode cM_divisor 20 = .ok (.lload 6, 2) := by decide +kernel
theorem dM_divisor_22 : decode cM_divisor 22 = .ok (.lstore 4, 2) := by decide +kernel
theorem dM_divisor_24 : decode cM_divisor 24 = .ok (.lload 8, 2) := by decide +kernel
theorem dM_divisor_26 : decode cM_divisor 26 = .ok (.lstore 6, 2) := by decide +kernel
theorem dM_divisor_28 : decode cM_divisor 28 = .ok (.goto (-22), 3) := by decide +kernel
theorem dM_divisor_31 : decode cM_divisor 31 = .ok (.lload 4, 2) := by decide +kernel
theorem dM_divisor_33 : decode cM_divisor 33 = .ok (.lreturn, 1) := by decide +kernel
def fM_divisor_6  : Nat → Int64 → Int64 → Option Int64
  | 0, _, _ => none
  | n + 1, v4, v6 =>
    if (lg_cmp v6 (0 : Int64)) = (0 : Int32) then
      some v4
    else
      if v6 = 0 then none else
      fM_divisor_6 n v6 (v4 - v4 / v6 * v6)
def fM_divisor  (v0 : Int64) (v2 : Int64) : Option Int64 :=
  fM_divisor_6 x_F v0 v2
set_option maxHeartbeats 4000000 in
set_option maxRecDepth 100000 in
theorem lM_divisor_6 (d : Nat) (hd : 1 ≤ d) {K : Option Value → x_W → Prop} {r : Int64} {w : x_W} (hK : K (some (.long r)) w) : ∀ (n : Nat) (v4 : Int64) (v6 : Int64), fM_divisor_6 n v4 v6 = some r → x_G none yM_divisor cM_divisor 10 (some .long) (x_room d 0 0) (x_QM K 0 0) 6 [none, none, none, none, some (.long v4), none, some (.long v6), none, none, none] [] w 0 0 := by
  intro n
  induction n with
  | zero => intro v4 v6 h; rw [fM_divisor_6] at h; cases h
  | succ n ih =>
    intro v4 v6 h
    rw [fM_divisor_6] at h
    refine g_lload 8 dM_divisor_6 rfl rfl ?_
    refine g_lconst 9 (0 : Int64) dM_divisor_8 rfl (by decide) ?_
    refine g_lcmp 10 dM_divisor_9 rfl ?_
    by_cases c1 : (lg_cmp v6 (0 : Int64)) = (0 : Int32)
    · rw [if_pos c1] at h
      refine g_if_eq_t 31 dM_divisor_10 (by decide) c1 ?_
      refine g_lload 33 dM_divisor_31 rfl rfl ?_
      obtain rfl := Option.some.inj h
      exact g_lret rfl dM_divisor_33 hK
    · rw [if_neg c1] at h
      refine g_if_eq_f 13 31 dM_divisor_10 (by decide) rfl c1 ?_
      refine g_lload 15 dM_divisor_13 rfl rfl ?_
      refine g_lload 17 dM_divisor_15 rfl rfl ?_
      by_cases c2 : v6 = 0
      · rw [if_pos c2] at h; cases h
      · rw [if_neg c2] at h
        refine g_lrem 18 dM_divisor_17 rfl c2 ?_
        refine g_lstore 20 [none, none, none, none, some (.long v4), none, some (.long v6), none, some (.long (v4 - v4 / v6 * v6)), none] dM_divisor_18 rfl rfl (by decide) ?_
        refine g_lload 22 dM_divisor_20 rfl rfl ?_
        refine g_lstore 24 [none, none, none, none, some (.long v6), none, some (.long v6), none, some (.long (v4 - v4 / v6 * v6)), none] dM_divisor_22 rfl rfl (by decide) ?_
        refine g_lload 26 dM_divisor_24 rfl rfl ?_
        refine g_lstore 28 [none, none, none, none, some (.long v6), none, some (.long (v4 - v4 / v6 * v6)), none, some (.long (v4 - v4 / v6 * v6)), none] dM_divisor_26 rfl rfl (by decide) ?_
        refine g_goto 6 dM_divisor_28 (by decide) ?_
        refine g_less [none, none, none, none, some (.long v6), none, some (.long (v4 - v4 / v6 * v6)), none, none, none] ⟨rfl, rfl, trivial⟩ ?_
        exact ih _ _ h
set_option maxHeartbeats 4000000 in
set_option maxRecDepth 100000 in
theorem mM_divisor (d : Nat) (hd : 1 ≤ d) {K : Option Value → x_W → Prop} {w : x_W} {v0 : Int64} {v2 : Int64} {r : Int64} (h : fM_divisor v0 v2 = some r) (hK : K (some (.long r)) w) : x_M yM_divisor cM_divisor 10 (some .long) d 0 0 [.long v0, .long v2] w K := by
  refine x_M.of [some (.long v0), none, some (.long v2), none, none, none, none, none, none, none] (by decide) rfl (Nat.le_of_ble_eq_true rfl) ?_
  unfold fM_divisor at h
  refine g_lload_n 1 (i := 0) dM_divisor_0 rfl rfl rfl ?_
  refine g_lstore 3 [some (.long v0), none, some (.long v2), none, some (.long v0), none, none, none, none, none] dM_divisor_1 rfl rfl (by decide) ?_
  refine g_lload_n 4 (i := 2) dM_divisor_3 rfl rfl rfl ?_
  refine g_lstore 6 [some (.long v0), none, some (.long v2), none, some (.long v0), none, some (.long v2), none, none, none] dM_divisor_4 rfl rfl (by decide) ?_
  refine g_less [none, none, none, none, some (.long v0), none, some (.long v2), none, none, none] ⟨rfl, rfl, trivial⟩ ?_
  exact lM_divisor_6 d hd hK x_F _ _ h
/-! ActSurgeryModel.part(JJI)I: level N -/
theorem dM_part_0 : decode cM_part 0 = .ok (.lload_n 0, 1) := by decide +kernel
theorem dM_part_1 : decode cM_part 1 = .ok (.lload_n 2, 1) := by decide +kernel
theorem dM_part_2 : decode cM_part 2 = .ok (.invokestatic 162, 3) := by decide +kernel
theorem dM_part_5 : decode cM_part 5 = .ok (.lstore 5, 2) := by decide +kernel
theorem dM_part_7 : decode cM_part 7 = .ok (.iload 4, 2) := by decide +kernel
theorem dM_part_9 : decode cM_part 9 = .ok (.ifCond .ne 10, 3) := by decide +kernel
theorem dM_part_12 : decode cM_part 12 = .ok (.lload_n 0, 1) := by decide +kernel
theorem dM_part_13 : decode cM_part 13 = .ok (.lload 5, 2) := by decide +kernel
theorem dM_part_15 : decode cM_part 15 = .ok (.ldiv, 1) := by decide +kernel
theorem dM_part_16 : decode cM_part 16 = .ok (.goto 7, 3) := by decide +kernel
theorem dM_part_19 : decode cM_part 19 = .ok (.lload_n 2, 1) := by decide +kernel
theorem dM_part_20 : decode cM_part 20 = .ok (.lload 5, 2) := by decide +kernel
theorem dM_part_22 : decode cM_part 22 = .ok (.ldiv, 1) := by decide +kernel
theorem dM_part_23 : decode cM_part 23 = .ok (.l2i, 1) := by decide +kernel
theorem dM_part_24 : decode cM_part 24 = .ok (.ireturn, 1) := by decide +kernel
theorem tw_3_223 : (Jvm.Cond.static ({ cls := "ActSurgeryModel", name := "divisor", desc := "(JJ)J" } : Jvm.MethodName)) ∈ x_GT := x_t3 223 rfl rfl
theorem tw_3_224 : (Jvm.Cond.code ({ cls := "ActSurgeryModel", name := "divisor", desc := "(JJ)J" } : Jvm.MethodName) prog_7_method_51_code (10 : Nat) (Option.some Jvm.ClassFile.FieldType.long)) ∈ x_GT := x_t3 224 rfl rfl
theorem tw_3_222 : (Jvm.Cond.methodLink "ActSurgeryModel" (162 : Nat) ({ cls := "ActSurgeryModel", name := "divisor", desc := "(JJ)J" } : Jvm.MethodName)) ∈ x_GT := x_t3 222 rfl rfl
theorem kM_162 : x_kS "ActSurgeryModel" 162 yM_divisor cM_divisor 10 (some .long) 2 := ⟨tw_3_223, tw_3_224, tw_1_6, tw_3_222, (by decide +kernel)⟩
def fM_part  (v0 : Int64) (v2 : Int64) (v4 : Int32) : Option Int32 :=
  (fM_divisor v0 v2).bind fun t1 =>
  if v4 = (0 : Int32) then
    if t1 = 0 then none else
    some ((v0 / t1).toInt32)
  else
    if t1 = 0 then none else
    some ((v2 / t1).toInt32)
set_option maxHeartbeats 4000000 in
set_option maxRecDepth 100000 in
theorem mM_part (d : Nat) (hd : 2 ≤ d) {K : Option Value → x_W → Prop} {w : x_W} {v0 : Int64} {v2 : Int64} {v4 : Int32} {r : Int32} (h : fM_part v0 v2 v4 = some r) (hK : K (some (.int r)) w) : x_M yM_part cM_part 7 (some .int) d 0 0 [.long v0, .long v2, .int v4] w K := by
  refine x_M.of [some (.long v0), none, some (.long v2), none, some (.int v4), none, none] (by decide) rfl (Nat.le_of_ble_eq_true rfl) ?_
  unfold fM_part at h
  refine g_lload_n 1 (i := 0) dM_part_0 rfl rfl rfl ?_
  refine g_lload_n 2 (i := 2) dM_part_1 rfl rfl rfl ?_
  obtain ⟨t1, e1, h⟩ := x_bind h
  refine g_cS 5 (some (.long t1)) w [.long v0, .long v2] [] dM_part_2 rfl (fun _ hK2 => mM_divisor (d - 1) (by omega) e1 hK2) kM_162 (x_rm (Nat.le_trans (by decide) hd) (by decide)) ⟨Nat.zero_le _, Nat.zero_le _⟩ (Nat.le_of_ble_eq_true rfl) rfl ?_
  refine g_lstore 7 [some (.long v0), none, some (.long v2), none, some (.int v4), some (.long t1), none] dM_part_5 rfl rfl (by decide) ?_
  refine g_iload 9 dM_part_7 rfl rfl ?_
  by_cases c2 : v4 = (0 : Int32)
  · rw [if_pos c2] at h
    refine g_if_ne_f 12 19 dM_part_9 (by decide) rfl c2 ?_
    refine g_lload_n 13 (i := 0) dM_part_12 rfl rfl rfl ?_
    refine g_lload 15 dM_part_13 rfl rfl ?_
    by_cases c3 : t1 = 0
    · rw [if_pos c3] at h; cases h
    · rw [if_neg c3] at h
      refine g_ldiv 16 dM_part_15 rfl c3 ?_
      refine g_goto 23 dM_part_16 (by decide) ?_
      refine g_l2i 24 dM_part_23 rfl ?_
      obtain rfl := Option.some.inj h
      exact g_iret rfl dM_part_24 hK
  · rw [if_neg c2] at h
    refine g_if_ne_t 19 dM_part_9 (by decide) c2 ?_
    refine g_lload_n 20 (i := 2) dM_part_19 rfl rfl rfl ?_
    refine g_lload 22 dM_part_20 rfl rfl ?_
    by_cases c4 : t1 = 0
    · rw [if_pos c4] at h; cases h
    · rw [if_neg c4] at h
      refine g_ldiv 23 dM_part_22 rfl c4 ?_
      refine g_l2i 24 dM_part_23 rfl ?_
      obtain rfl := Option.some.inj h
      exact g_iret rfl dM_part_24 hK
/-! ActSurgeryModel.isValues(II)Z: level P -/
theorem dM_isValues_0 : decode cM_isValues 0 = .ok (.aload_n 0, 1) := by decide +kernel
theorem dM_isValues_1 : decode cM_isValues 1 = .ok (.iload_n 1, 1) := by decide +kernel
theorem dM_isValues_2 : decode cM_isValues 2 = .ok (.invokevirtual 59, 3) := by decide +kernel
theorem dM_isValues_5 : decode cM_isValues 5 = .ok (.ifCond .eq 23, 3) := by decide +kernel
theorem dM_isValues_8 : decode cM_isValues 8 = .ok (.aload_n 0, 1) := by decide +kernel
theorem dM_isValues_9 : decode cM_isValues 9 = .ok (.iload_n 2, 1) := by decide +kernel
theorem dM_isValues_10 : decode cM_isValues 10 = .ok (.invokevirtual 59, 3) := by decide +kernel
theorem dM_isValues_13 : decode cM_isValues 13 = .ok (.ifCond .eq 15, 3) := by decide +kernel
theorem dM_isValues_16 : decode cM_isValues 16 = .ok (.iload_n 2, 1) := by decide +kernel
theorem dM_isValues_17 : decode cM_isValues 17 = .ok (.iload_n 1, 1) := by decide +kernel
theorem dM_isValues_18 : decode cM_isValues 18 = .ok (.iconst (-1), 1) := by decide +kernel
theorem dM_isValues_19 : decode cM_isValues 19 = .ok (.ixor, 1) := by decide +kernel
theorem dM_isValues_20 : decode cM_isValues 20 = .ok (.iand, 1) := by decide +kernel
theorem dM_isValues_21 : decode cM_isValues 21 = .ok (.ifCond .ne 7, 3) := by decide +kernel
theorem dM_isValues_24 : decode cM_isValues 24 = .ok (.iconst 1, 1) := by decide +kernel
theorem dM_isValues_25 : decode cM_isValues 25 = .ok (.goto 4, 3) := by decide +kernel
theorem dM_isValues_28 : decode cM_isValues 28 = .ok (.iconst 0, 1) := by decide +kernel
theorem dM_isValues_29 : decode cM_isValues 29 = .ok (.ireturn, 1) := by decide +kernel
def fM_isValues (w : x_W) (v0 : Nat) (v1 : Int32) (v2 : Int32) : Option Int32 :=
  (x_ob w v0 5).bind fun _ =>
  (fM_isSet w v0 v1).bind fun t2 =>
  if t2 = (0 : Int32) then
    some (0 : Int32)
  else
    (fM_isSet w v0 v2).bind fun t4 =>
    if t4 = (0 : Int32) then
      some (0 : Int32)
    else
      if (v2 &&& (v1 ^^^ (-1 : Int32))) = (0 : Int32) then
        some (1 : Int32)
      else
        some (0 : Int32)
set_option maxHeartbeats 4000000 in
set_option maxRecDepth 100000 in
theorem mM_isValues (d : Nat) (hd : 4 ≤ d) {K : Option Value → x_W → Prop} {w : x_W} {v0 : Nat} {v1 : Int32} {v2 : Int32} {r : Int32} (h : fM_isValues w v0 v1 v2 = some r) (hK : K (some (.int r)) w) : x_M yM_isValues cM_isValues 3 (some .boolean) d 0 0 [.ref v0, .int v1, .int v2] w K := by
  refine x_M.of [some (.ref v0), some (.int v1), some (.int v2)] (by decide) rfl (Nat.le_of_ble_eq_true rfl) ?_
  unfold fM_isValues at h
  refine g_aload_n 1 (i := 0) dM_isValues_0 rfl rfl rfl ?_
  refine g_iload_n 2 (i := 1) dM_isValues_1 rfl rfl rfl ?_
  obtain ⟨_, e1, h⟩ := x_bind h
  obtain ⟨t2, e2, h⟩ := x_bind h
  refine g_cV 5 (some (.int t2)) w [.int v1] [] dM_isValues_2 rfl (fun _ hK2 => mM_isSet (d - 1) (by omega) e2 hK2) (x_ob_some e1) kM_59 (x_rm (Nat.le_trans (by decide) hd) (by decide)) ⟨Nat.zero_le _, Nat.zero_le _⟩ (Nat.le_of_ble_eq_true rfl) rfl ?_
  by_cases c3 : t2 = (0 : Int32)
  · rw [if_pos c3] at h
    refine g_if_eq_t 28 dM_isValues_5 (by decide) c3 ?_
    refine g_iconst 29 (0 : Int32) dM_isValues_28 rfl (by decide) ?_
    obtain rfl := Option.some.inj h
    exact g_zret rfl (by decide) dM_isValues_29 hK
  · rw [if_neg c3] at h
    refine g_if_eq_f 8 28 dM_isValues_5 (by decide) rfl c3 ?_
    refine g_aload_n 9 (i := 0) dM_isValues_8 rfl rfl rfl ?_
    refine g_iload_n 10 (i := 2) dM_isValues_9 rfl rfl rfl ?_
    obtain ⟨t4, e4, h⟩ := x_bind h
    refine g_cV 13 (some (.int t4)) w [.int v2] [] dM_isValues_10 rfl (fun _ hK2 => mM_isSet (d - 1) (by omega) e4 hK2) (x_ob_some e1) kM_59 (x_rm (Nat.le_trans (by decide) hd) (by decide)) ⟨Nat.zero_le _, Nat.zero_le _⟩ (Nat.le_of_ble_eq_true rfl) rfl ?_
    by_cases c5 : t4 = (0 : Int32)
    · rw [if_pos c5] at h
      refine g_if_eq_t 28 dM_isValues_13 (by decide) c5 ?_
      refine g_iconst 29 (0 : Int32) dM_isValues_28 rfl (by decide) ?_
      obtain rfl := Option.some.inj h
      exact g_zret rfl (by decide) dM_isValues_29 hK
    · rw [if_neg c5] at h
      refine g_if_eq_f 16 28 dM_isValues_13 (by decide) rfl c5 ?_
      refine g_iload_n 17 (i := 2) dM_isValues_16 rfl rfl rfl ?_
      refine g_iload_n 18 (i := 1) dM_isValues_17 rfl rfl rfl ?_
      refine g_iconst 19 (-1 : Int32) dM_isValues_18 rfl (by decide) ?_
      refine g_ixor 20 dM_isValues_19 rfl ?_
      refine g_iand 21 dM_isValues_20 rfl ?_
      by_cases c6 : (v2 &&& (v1 ^^^ (-1 : Int32))) = (0 : Int32)
      · rw [if_pos c6] at h
        refine g_if_ne_f 24 28 dM_isValues_21 (by decide) rfl c6 ?_
        refine g_iconst 25 (1 : Int32) dM_isValues_24 rfl (by decide) ?_
        refine g_goto 29 dM_isValues_25 (by decide) ?_
        obtain rfl := Option.some.inj h
        exact g_zret rfl (by decide) dM_isValues_29 hK
      · rw [if_neg c6] at h
        refine g_if_ne_t 28 dM_isValues_21 (by decide) c6 ?_
        refine g_iconst 29 (0 : Int32) dM_isValues_28 rfl (by decide) ?_
        obtain rfl := Option.some.inj h
        exact g_zret rfl (by decide) dM_isValues_29 hK
/-! ActSurgeryModel.odds(IIIIIII)I: level P -/
theorem dM_odds_0 : decode cM_odds 0 = .ok (.aload_n 0, 1) := by decide +kernel
theorem dM_odds_1 : decode cM_odds 1 = .ok (.iload_n 1, 1) := by decide +kernel
theorem dM_odds_2 : decode cM_odds 2 = .ok (.iload_n 2, 1) := by decide +kernel
theorem dM_odds_3 : decode cM_odds 3 = .ok (.invokevirtual 166, 3) := by decide +kernel
theorem dM_odds_6 : decode cM_odds 6 = .ok (.ifCond .eq 34, 3) := by decide +kernel
theorem dM_odds_9 : decode cM_odds 9 = .ok (.aload_n 0, 1) := by decide +kernel
theorem dM_odds_10 : decode cM_odds 10 = .ok (.iload_n 3, 1) := by decide +kernel
theorem dM_odds_11 : decode cM_odds 11 = .ok (.iload 4, 2) := by decide +kernel
theorem dM_odds_13 : decode cM_odds 13 = .ok (.invokevirtual 166, 3) := by decide +kernel
theorem dM_odds_16 : decode cM_odds 16 = .ok (.ifCond .eq 24, 3) := by decide +kernel
theorem dM_odds_19 : decode cM_odds 19 = .ok (.aload_n 0, 1) := by decide +kernel
theorem dM_odds_20 : decode cM_odds 20 = .ok (.iload 5, 2) := by decide +kernel
theorem dM_odds_22 : decode cM_odds 22 = .ok (.iload 6, 2) := by decide +kernel
theorem dM_odds_24 : decode cM_odds 24 = .ok (.invokevirtual 166, 3) := by decide +kernel
theorem dM_odds_27 : decode cM_odds 27 = .ok (.ifCond .eq 13, 3) := by decide +kernel
theorem dM_odds_30 : decode cM_odds 30 = .ok (.iload 7, 2) := by decide +kernel
theorem dM_odds_32 : decode cM_odds 32 = .ok (.iconst 0, 1) := by decide +kernel
theorem dM_odds_33 : decode cM_odds 33 = .ok (.iconst 1, 1) := by decide +kernel
theorem dM_odds_34 : decode cM_odds 34 = .ok (.invokestatic 48, 3) := by decide +kernel
theorem dM_odds_37 : decode cM_odds 37 = .ok (.ifCond .ne 6, 3) := by decide +kernel
theorem dM_odds_40 : decode cM_odds 40 = .ok (.bipush (-2), 2) := by decide +kernel
theorem dM_odds_42 : decode cM_odds 42 = .ok (.ireturn, 1) := by decide +kernel
theorem dM_odds_43 : decode cM_odds 43 = .ok (.lconst 0, 1) := by decide +kernel
theorem dM_odds_44 : decode cM_odds 44 = .ok (.lstore 8, 2) := by decide +kernel
theorem dM_odds_46 : decode cM_odds 46 = .ok (.lconst 0, 1) := by decide +kernel
theorem dM_odds_47 : decode cM_odds 47 = .ok (.lstore 10, 2) := by decide +kernel
theorem dM_odds_49 : decode cM_odds 49 = .ok (.iconst 0, 1) := by decide +kernel
theorem dM_odds_50 : decode cM_odds 50 = .ok (.istore 12, 2) := by decide +kernel
theorem dM_odds_52 : decode cM_odds 52 = .ok (.iload 12, 2) := by decide +kernel
theorem dM_odds_54 : decode cM_odds 54 = .ok (.aload_n 0, 1) := by decide +kernel
theorem dM_odds_55 : decode cM_odds 55 = .ok (.invokevirtual 52, 3) := by decide +kernel
theorem dM_odds_58 : decode cM_odds 58 = .ok (.if_icmp .gt 58, 3) := by decide +kernel
theorem dM_odds_61 : decode cM_odds 61 = .ok (.iload 12, 2) := by decide +kernel
theorem dM_odds_63 : decode cM_odds 63 = .ok (.iload 5, 2) := by decide +kernel
theorem dM_odds_65 : decode cM_odds 65 = .ok (.iand, 1) := by decide +kernel
theorem dM_odds_66 : decode cM_odds 66 = .ok (.iload 6, 2) := by decide +kernel
theorem dM_odds_68 : decode cM_odds 68 = .ok (.if_icmp .ne 42, 3) := by decide +kernel
theorem dM_odds_71 : decode cM_odds 71 = .ok (.aload_n 0, 1) := by decide +kernel
theorem dM_odds_72 : decode cM_odds 72 = .ok (.iconst 0, 1) := by decide +kernel
theorem dM_odds_73 : decode cM_odds 73 = .ok (.iload 12, 2) := by decide +kernel
theorem dM_odds_75 : decode cM_odds 75 = .ok (.iload_n 3, 1) := by decide +kernel
theorem dM_odds_76 : decode cM_odds 76 = .ok (.iload 4, 2) := by decide +kernel
theorem dM_odds_78 : decode cM_odds 78 = .ok (.invokevirtual 169, 3) := by decide +kernel
theorem dM_odds_81 : decode cM_odds 81 = .ok (.lstore 13, 2) := by decide +kernel
theorem dM_odds_83 : decode cM_odds 83 = .ok (.lload 10, 2) := by decide +kernel
theorem dM_odds_85 : decode cM_odds 85 = .ok (.lload 13, 2) := by decide +kernel
theorem dM_odds_87 : decode cM_odds 87 = .ok (.ladd, 1) := by decide +kernel
theorem dM_odds_88 : decode cM_odds 88 = .ok (.lstore 10, 2) := by decide +kernel
theorem dM_odds_90 : decode cM_odds 90 = .ok (.iload 12, 2) := by decide +kernel
theorem dM_odds_92 : decode cM_odds 92 = .ok (.iload_n 1, 1) := by decide +kernel
theorem dM_odds_93 : decode cM_odds 93 = .ok (.iand, 1) := by decide +kernel
theorem dM_odds_94 : decode cM_odds 94 = .ok (.iload_n 2, 1) := by decide +kernel
theorem dM_odds_95 : decode cM_odds 95 = .ok (.if_icmp .ne 11, 3) := by decide +kernel
theorem dM_odds_98 : decode cM_odds 98 = .ok (.lload 8, 2) := by decide +kernel
theorem dM_odds_100 : decode cM_odds 100 = .ok (.lload 13, 2) := by decide +kernel
theorem dM_odds_102 : decode cM_odds 102 = .ok (.ladd, 1) := by decide +kernel
theorem dM_odds_103 : decode cM_odds 103 = .ok (.goto 5, 3) := by decide +kernel
theorem dM_odds_106 : decode cM_odds 106 = .ok (.lload 8, 2) := by decide +kernel
theorem dM_odds_108 : decode cM_odds 108 = .ok (.lstore 8, 2) := by decide +kernel
theorem dM_odds_110 : decode cM_odds 110 = .ok (.iinc 12 1, 3) := by decide +kernel
theorem dM_odds_113 : decode cM_odds 113 = .ok (.goto (-61), 3) := by decide +kernel
theorem dM_odds_116 : decode cM_odds 116 = .ok (.lload 10, 2) := by decide +kernel
theorem dM_odds_118 : decode cM_odds 118 = .ok (.lconst 0, 1) := by decide +kernel
theorem dM_odds_119 : decode cM_odds 119 = .ok (.lcmp, 1) := by decide +kernel
theorem dM_odds_120 : decode cM_odds 120 = .ok (.ifCond .ne 7, 3) := by decide +kernel
theorem dM_odds_123 : decode cM_odds 123 = .ok (.iconst (-1), 1) := by decide +kernel
theorem dM_odds_124 : decode cM_odds 124 = .ok (.goto 12, 3) := by decide +kernel
theorem dM_odds_127 : decode cM_odds 127 = .ok (.lload 8, 2) := by decide +kernel
theorem dM_odds_129 : decode cM_odds 129 = .ok (.lload 10, 2) := by decide +kernel
theorem dM_odds_131 : decode cM_odds 131 = .ok (.iload 7, 2) := by decide +kernel
theorem dM_odds_133 : decode cM_odds 133 = .ok (.invokestatic 173, 3) := by decide +kernel
theorem dM_odds_136 : decode cM_odds 136 = .ok (.ireturn, 1) := by decide +kernel
theorem tw_3_220 : (Jvm.Cond.static ({ cls := "ActSurgeryModel", name := "part", desc := "(JJI)I" } : Jvm.MethodName)) ∈ x_GT := x_t3 220 rfl rfl
theorem tw_3_221 : (Jvm.Cond.code ({ cls := "ActSurgeryModel", name := "part", desc := "(JJI)I" } : Jvm.MethodName) prog_7_method_52_code (7 : Nat) (Option.some Jvm.ClassFile.FieldType.int)) ∈ x_GT := x_t3 221 rfl rfl
theorem tw_3_219 : (Jvm.Cond.methodLink "ActSurgeryModel" (173 : Nat) ({ cls := "ActSurgeryModel", name := "part", desc := "(JJI)I" } : Jvm.MethodName)) ∈ x_GT := x_t3 219 rfl rfl
theorem kM_173 : x_kS "ActSurgeryModel" 173 yM_part cM_part 7 (some .int) 3 := ⟨tw_3_220, tw_3_221, tw_1_6, tw_3_219, (by decide +kernel)⟩
theorem tw_3_217 : (Jvm.Cond.instanceMethod ({ cls := "ActSurgeryModel", name := "draws", desc := "(IIII)J" } : Jvm.MethodName)) ∈ x_GT := x_t3 217 rfl rfl
theorem tws_58 : (Jvm.Cond.selects "ActSurgeryModel" ({ cls := "ActSurgeryModel", name := "draws", desc := "(IIII)J" } : Jvm.MethodName) ({ cls := "ActSurgeryModel", name := "draws", desc := "(IIII)J" } : Jvm.MethodName)) ∈ x_GT := x_ts 58 rfl rfl
theorem tw_3_218 : (Jvm.Cond.code ({ cls := "ActSurgeryModel", name := "draws", desc := "(IIII)J" } : Jvm.MethodName) prog_7_method_49_code (10 : Nat) (Option.some Jvm.ClassFile.FieldType.long)) ∈ x_GT := x_t3 218 rfl rfl
theorem tw_3_215 : (Jvm.Cond.methodLink "ActSurgeryModel" (169 : Nat) ({ cls := "ActSurgeryModel", name := "draws", desc := "(IIII)J" } : Jvm.MethodName)) ∈ x_GT := x_t3 215 rfl rfl
theorem kM_169 : x_kV "ActSurgeryModel" 169 yM_draws cM_draws 10 (some .long) 4 5 := ⟨tw_3_217, tws_58, tw_3_218, tw_1_6, tw_3_215, (by decide +kernel), rfl⟩
theorem tw_3_213 : (Jvm.Cond.instanceMethod ({ cls := "ActSurgeryModel", name := "isValues", desc := "(II)Z" } : Jvm.MethodName)) ∈ x_GT := x_t3 213 rfl rfl
theorem tws_57 : (Jvm.Cond.selects "ActSurgeryModel" ({ cls := "ActSurgeryModel", name := "isValues", desc := "(II)Z" } : Jvm.MethodName) ({ cls := "ActSurgeryModel", name := "isValues", desc := "(II)Z" } : Jvm.MethodName)) ∈ x_GT := x_ts 57 rfl rfl
theorem tw_3_214 : (Jvm.Cond.code ({ cls := "ActSurgeryModel", name := "isValues", desc := "(II)Z" } : Jvm.MethodName) prog_7_method_53_code (3 : Nat) (Option.some Jvm.ClassFile.FieldType.boolean)) ∈ x_GT := x_t3 214 rfl rfl
theorem tw_3_211 : (Jvm.Cond.methodLink "ActSurgeryModel" (166 : Nat) ({ cls := "ActSurgeryModel", name := "isValues", desc := "(II)Z" } : Jvm.MethodName)) ∈ x_GT := x_t3 211 rfl rfl
theorem kM_166 : x_kV "ActSurgeryModel" 166 yM_isValues cM_isValues 3 (some .boolean) 2 5 := ⟨tw_3_213, tws_57, tw_3_214, tw_1_6, tw_3_211, (by decide +kernel), rfl⟩
def fM_odds_52 (w : x_W) : Nat → Nat → Int32 → Int32 → Int32 → Int32 → Int32 → Int32 → Int32 → Int64 → Int64 → Int32 → Option Int32
  | 0, _, _, _, _, _, _, _, _, _, _, _ => none
  | n + 1, v0, v1, v2, v3, v4, v5, v6, v7, v8, v10, v12 =>
    (x_ob w v0 5).bind fun _ =>
    (fM_all w v0).bind fun t2 =>
    if t2 < v12 then
      if (lg_cmp v10 (0 : Int64)) = (0 : Int32) then
        some (-1 : Int32)
      else
        (fM_part v8 v10 v7).bind fun t5 =>
        some t5
    else
      if (v12 &&& v5) = v6 then
        (fM_draws w v0 (0 : Int32) v12 v3 v4).bind fun t7 =>
        if (v12 &&& v1) = v2 then
          fM_odds_52 w n v0 v1 v2 v3 v4 v5 v6 v7 (v8 + t7) (v10 + t7) (v12 + (1 : Int32))
        else
          fM_odds_52 w n v0 v1 v2 v3 v4 v5 v6 v7 v8 (v10 + t7) (v12 + (1 : Int32))
      else
        fM_odds_52 w n v0 v1 v2 v3 v4 v5 v6 v7 v8 v10 (v12 + (1 : Int32))
def fM_odds (w : x_W) (v0 : Nat) (v1 : Int32) (v2 : Int32) (v3 : Int32) (v4 : Int32) (v5 : Int32) (v6 : Int32) (v7 : Int32) : Option Int32 :=
  (x_ob w v0 5).bind fun _ =>
  (fM_isValues w v0 v1 v2).bind fun t2 =>
  if t2 = (0 : Int32) then
    some (-2 : Int32)
  else
    (fM_isValues w v0 v3 v4).bind fun t4 =>
    if t4 = (0 : Int32) then
      some (-2 : Int32)
    else
      (fM_isValues w v0 v5 v6).bind fun t6 =>
      if t6 = (0 : Int32) then
        some (-2 : Int32)
      else
        if (fM_isIn v7 (0 : Int32) (1 : Int32)) = (0 : Int32) then
          some (-2 : Int32)
        else
          fM_odds_52 w x_F v0 v1 v2 v3 v4 v5 v6 v7 (0 : Int64) (0 : Int64) (0 : Int32)
set_option maxHeartbeats 4000000 in
set_option maxRecDepth 100000 in
theorem lM_odds_52 (d : Nat) (hd : 5 ≤ d) {K : Option Value → x_W → Prop} {r : Int32} {w : x_W} (hK : K (some (.int r)) w) : ∀ (n : Nat) (v0 : Nat) (v1 : Int32) (v2 : Int32) (v3 : Int32) (v4 : Int32) (v5 : Int32) (v6 : Int32) (v7 : Int32) (v8 : Int64) (v10 : Int64) (v12 : Int32), fM_odds_52 w n v0 v1 v2 v3 v4 v5 v6 v7 v8 v10 v12 = some r → x_G none yM_odds cM_odds 15 (some .int) (x_room d 0 0) (x_QM K 0 0) 52 [some (.ref v0), some (.int v1), some (.int v2), some (.int v3), some (.int v4), some (.int v5), some (.int v6), some (.int v7), some (.long v8), none, some (.long v10), none, some (.int v12), none, none] [] w 0 0 := by
  intro n
  induction n with
  | zero => intro v0 v1 v2 v3 v4 v5 v6 v7 v8 v10 v12 h; rw [fM_odds_52] at h; cases h
  | succ n ih =>
    intro v0 v1 v2 v3 v4 v5 v6 v7 v8 v10 v12 h
    rw [fM_odds_52] at h
    refine g_iload 54 dM_odds_52 rfl rfl ?_
    refine g_aload_n 55 (i := 0) dM_odds_54 rfl rfl rfl ?_
    obtain ⟨_, e1, h⟩ := x_bind h
    obtain ⟨t2, e2, h⟩ := x_bind h
    refine g_cV 58 (some (.int t2)) w [] [.int v12] dM_odds_55 rfl (fun _ hK2 => mM_all (d - 1) (by omega) e2 hK2) (x_ob_some e1) kM_52 (x_rm (Nat.le_trans (by decide) hd) (by decide)) ⟨Nat.zero_le _, Nat.zero_le _⟩ (Nat.le_of_ble_eq_true rfl) rfl ?_
    by_cases c3 : t2 < v12
    · rw [if_pos c3] at h
      refine g_icmp_gt_t 116 dM_odds_58 (by decide) c3 ?_
      refine g_lload 118 dM_odds_116 rfl rfl ?_
      refine g_lconst 119 (0 : Int64) dM_odds_118 rfl (by decide) ?_
      refine g_lcmp 120 dM_odds_119 rfl ?_
      by_cases c4 : (lg_cmp v10 (0 : Int64)) = (0 : Int32)
      · rw [if_pos c4] at h
        refine g_if_ne_f 123 127 dM_odds_120 (by decide) rfl c4 ?_
        refine g_iconst 124 (-1 : Int32) dM_odds_123 rfl (by decide) ?_
        refine g_goto 136 dM_odds_124 (by decide) ?_
        obtain rfl := Option.some.inj h
        exact g_iret rfl dM_odds_136 hK
      · rw [if_neg c4] at h
        refine g_if_ne_t 127 dM_odds_120 (by decide) c4 ?_
        refine g_lload 129 dM_odds_127 rfl rfl ?_
        refine g_lload 131 dM_odds_129 rfl rfl ?_
        refine g_iload 133 dM_odds_131 rfl rfl ?_
        obtain ⟨t5, e5, h⟩ := x_bind h
        refine g_cS 136 (some (.int t5)) w [.long v8, .long v10, .int v7] [] dM_odds_133 rfl (fun _ hK2 => mM_part (d - 1) (by omega) e5 hK2) kM_173 (x_rm (Nat.le_trans (by decide) hd) (by decide)) ⟨Nat.zero_le _, Nat.zero_le _⟩ (Nat.le_of_ble_eq_true rfl) rfl ?_
        obtain rfl := Option.some.inj h
        exact g_iret rfl dM_odds_136 hK
    · rw [if_neg c3] at h
      refine g_icmp_gt_f 61 116 dM_odds_58 (by decide) rfl c3 ?_
      refine g_iload 63 dM_odds_61 rfl rfl ?_
      refine g_iload 65 dM_odds_63 rfl rfl ?_
      refine g_iand 66 dM_odds_65 rfl ?_
      refine g_iload 68 dM_odds_66 rfl rfl ?_
      by_cases c6 : (v12 &&& v5) = v6
      · rw [if_pos c6] at h
        refine g_icmp_ne_f 71 110 dM_odds_68 (by decide) rfl c6 ?_
        refine g_aload_n 72 (i := 0) dM_odds_71 rfl rfl rfl ?_
        refine g_iconst 73 (0 : Int32) dM_odds_72 rfl (by decide) ?_
        refine g_iload 75 dM_odds_73 rfl rfl ?_
        refine g_iload_n 76 (i := 3) dM_odds_75 rfl rfl rfl ?_
        refine g_iload 78 dM_odds_76 rfl rfl ?_
        obtain ⟨t7, e7, h⟩ := x_bind h
        refine g_cV 81 (some (.long t7)) w [.int (0 : Int32), .int v12, .int v3, .int v4] [] dM_odds_78 rfl (fun _ hK2 => mM_draws (d - 1) (by omega) e7 hK2) (x_ob_some e1) kM_169 (x_rm (Nat.le_trans (by decide) hd) (by decide)) ⟨Nat.zero_le _, Nat.zero_le _⟩ (Nat.le_of_ble_eq_true rfl) rfl ?_
        refine g_lstore 83 [some (.ref v0), some (.int v1), some (.int v2), some (.int v3), some (.int v4), some (.int v5), some (.int v6), some (.int v7), some (.long v8), none, some (.long v10), none, some (.int v12), some (.long t7), none] dM_odds_81 rfl rfl (by decide) ?_
        refine g_lload 85 dM_odds_83 rfl rfl ?_
        refine g_lload 87 dM_odds_85 rfl rfl ?_
        refine g_ladd 88 dM_odds_87 rfl ?_
        refine g_lstore 90 [some (.ref v0), some (.int v1), some (.int v2), some (.int v3), some (.int v4), some (.int v5), some (.int v6), some (.int v7), some (.long v8), none, some (.long (v10 + t7)), none, some (.int v12), some (.long t7), none] dM_odds_88 rfl rfl (by decide) ?_
        refine g_iload 92 dM_odds_90 rfl rfl ?_
        refine g_iload_n 93 (i := 1) dM_odds_92 rfl rfl rfl ?_
        refine g_iand 94 dM_odds_93 rfl ?_
        refine g_iload_n 95 (i := 2) dM_odds_94 rfl rfl rfl ?_
        by_cases c8 : (v12 &&& v1) = v2
        · rw [if_pos c8] at h
          refine g_icmp_ne_f 98 106 dM_odds_95 (by decide) rfl c8 ?_
          refine g_lload 100 dM_odds_98 rfl rfl ?_
          refine g_lload 102 dM_odds_100 rfl rfl ?_
          refine g_ladd 103 dM_odds_102 rfl ?_
          refine g_goto 108 dM_odds_103 (by decide) ?_
          refine g_lstore 110 [some (.ref v0), some (.int v1), some (.int v2), some (.int v3), some (.int v4), some (.int v5), some (.int v6), some (.int v7), some (.long (v8 + t7)), none, some (.long (v10 + t7)), none, some (.int v12), some (.long t7), none] dM_odds_108 rfl rfl (by decide) ?_
          refine g_iinc 113 [some (.ref v0), some (.int v1), some (.int v2), some (.int v3), some (.int v4), some (.int v5), some (.int v6), some (.int v7), some (.long (v8 + t7)), none, some (.long (v10 + t7)), none, some (.int (v12 + (1 : Int32))), some (.long t7), none] dM_odds_110 rfl rfl (x_inc (1 : Int32) (by decide)) rfl (by decide) ?_
          refine g_goto 52 dM_odds_113 (by decide) ?_
          refine g_less [some (.ref v0), some (.int v1), some (.int v2), some (.int v3), some (.int v4), some (.int v5), some (.int v6), some (.int v7), some (.long (v8 + t7)), none, some (.long (v10 + t7)), none, some (.int (v12 + (1 : Int32))), none, none] ⟨rfl, rfl, rfl, rfl, rfl, rfl, rfl, rfl, rfl, rfl, rfl, trivial⟩ ?_
          exact ih _ _ _ _ _ _ _ _ _ _ _ h
        · rw [if_neg c8] at h
          refine g_icmp_ne_t 106 dM_odds_95 (by decide) c8 ?_
          refine g_lload 108 dM_odds_106 rfl rfl ?_
          refine g_lstore 110 [some (.ref v0), some (.int v1), some (.int v2), some (.int v3), some (.int v4), some (.int v5), some (.int v6), some (.int v7), some (.long v8), none, some (.long (v10 + t7)), none, some (.int v12), some (.long t7), none] dM_odds_108 rfl rfl (by decide) ?_
          refine g_iinc 113 [some (.ref v0), some (.int v1), some (.int v2), some (.int v3), some (.int v4), some (.int v5), some (.int v6), some (.int v7), some (.long v8), none, some (.long (v10 + t7)), none, some (.int (v12 + (1 : Int32))), some (.long t7), none] dM_odds_110 rfl rfl (x_inc (1 : Int32) (by decide)) rfl (by decide) ?_
          refine g_goto 52 dM_odds_113 (by decide) ?_
          refine g_less [some (.ref v0), some (.int v1), some (.int v2), some (.int v3), some (.int v4), some (.int v5), some (.int v6), some (.int v7), some (.long v8), none, some (.long (v10 + t7)), none, some (.int (v12 + (1 : Int32))), none, none] ⟨rfl, rfl, rfl, rfl, rfl, rfl, rfl, rfl, rfl, rfl, rfl, trivial⟩ ?_
          exact ih _ _ _ _ _ _ _ _ _ _ _ h
      · rw [if_neg c6] at h
        refine g_icmp_ne_t 110 dM_odds_68 (by decide) c6 ?_
        refine g_iinc 113 [some (.ref v0), some (.int v1), some (.int v2), some (.int v3), some (.int v4), some (.int v5), some (.int v6), some (.int v7), some (.long v8), none, some (.long v10), none, some (.int (v12 + (1 : Int32))), none, none] dM_odds_110 rfl rfl (x_inc (1 : Int32) (by decide)) rfl (by decide) ?_
        refine g_goto 52 dM_odds_113 (by decide) ?_
        exact ih _ _ _ _ _ _ _ _ _ _ _ h
set_option maxHeartbeats 4000000 in
set_option maxRecDepth 100000 in
theorem mM_odds (d : Nat) (hd : 5 ≤ d) {K : Option Value → x_W → Prop} {w : x_W} {v0 : Nat} {v1 : Int32} {v2 : Int32} {v3 : Int32} {v4 : Int32} {v5 : Int32} {v6 : Int32} {v7 : Int32} {r : Int32} (h : fM_odds w v0 v1 v2 v3 v4 v5 v6 v7 = some r) (hK : K (some (.int r)) w) : x_M yM_odds cM_odds 15 (some .int) d 0 0 [.ref v0, .int v1, .int v2, .int v3, .int v4, .int v5, .int v6, .int v7] w K := by
  refine x_M.of [some (.ref v0), some (.int v1), some (.int v2), some (.int v3), some (.int v4), some (.int v5), some (.int v6), some (.int v7), none, none, none, none, none, none, none] (by decide) rfl (Nat.le_of_ble_eq_true rfl) ?_
  unfold fM_odds at h
  refine g_aload_n 1 (i := 0) dM_odds_0 rfl rfl rfl ?_
  refine g_iload_n 2 (i := 1) dM_odds_1 rfl rfl rfl ?_
  refine g_iload_n 3 (i := 2) dM_odds_2 rfl rfl rfl ?_
  obtain ⟨_, e1, h⟩ := x_bind h
  obtain ⟨t2, e2, h⟩ := x_bind h
  refine g_cV 6 (some (.int t2)) w [.int v1, .int v2] [] dM_odds_3 rfl (fun _ hK2 => mM_isValues (d - 1) (by omega) e2 hK2) (x_ob_some e1) kM_166 (x_rm (Nat.le_trans (by decide) hd) (by decide)) ⟨Nat.zero_le _, Nat.zero_le _⟩ (Nat.le_of_ble_eq_true rfl) rfl ?_
  by_cases c3 : t2 = (0 : Int32)
  · rw [if_pos c3] at h
    refine g_if_eq_t 40 dM_odds_6 (by decide) c3 ?_
    refine g_bipush 42 (-2 : Int32) dM_odds_40 rfl (by decide) ?_
    obtain rfl := Option.some.inj h
    exact g_iret rfl dM_odds_42 hK
  · rw [if_neg c3] at h
    refine g_if_eq_f 9 40 dM_odds_6 (by decide) rfl c3 ?_
    refine g_aload_n 10 (i := 0) dM_odds_9 rfl rfl rfl ?_
    refine g_iload_n 11 (i := 3) dM_odds_10 rfl rfl rfl ?_
    refine g_iload 13 dM_odds_11 rfl rfl ?_
    obtain ⟨t4, e4, h⟩ := x_bind h
    refine g_cV 16 (some (.int t4)) w [.int v3, .int v4] [] dM_odds_13 rfl (fun _ hK2 => mM_isValues (d - 1) (by omega) e4 hK2) (x_ob_some e1) kM_166 (x_rm (Nat.le_trans (by decide) hd) (by decide)) ⟨Nat.zero_le _, Nat.zero_le _⟩ (Nat.le_of_ble_eq_true rfl) rfl ?_
    by_cases c5 : t4 = (0 : Int32)
    · rw [if_pos c5] at h
      refine g_if_eq_t 40 dM_odds_16 (by decide) c5 ?_
      refine g_bipush 42 (-2 : Int32) dM_odds_40 rfl (by decide) ?_
      obtain rfl := Option.some.inj h
      exact g_iret rfl dM_odds_42 hK
    · rw [if_neg c5] at h
      refine g_if_eq_f 19 40 dM_odds_16 (by decide) rfl c5 ?_
      refine g_aload_n 20 (i := 0) dM_odds_19 rfl rfl rfl ?_
      refine g_iload 22 dM_odds_20 rfl rfl ?_
      refine g_iload 24 dM_odds_22 rfl rfl ?_
      obtain ⟨t6, e6, h⟩ := x_bind h
      refine g_cV 27 (some (.int t6)) w [.int v5, .int v6] [] dM_odds_24 rfl (fun _ hK2 => mM_isValues (d - 1) (by omega) e6 hK2) (x_ob_some e1) kM_166 (x_rm (Nat.le_trans (by decide) hd) (by decide)) ⟨Nat.zero_le _, Nat.zero_le _⟩ (Nat.le_of_ble_eq_true rfl) rfl ?_
      by_cases c7 : t6 = (0 : Int32)
      · rw [if_pos c7] at h
        refine g_if_eq_t 40 dM_odds_27 (by decide) c7 ?_
        refine g_bipush 42 (-2 : Int32) dM_odds_40 rfl (by decide) ?_
        obtain rfl := Option.some.inj h
        exact g_iret rfl dM_odds_42 hK
      · rw [if_neg c7] at h
        refine g_if_eq_f 30 40 dM_odds_27 (by decide) rfl c7 ?_
        refine g_iload 32 dM_odds_30 rfl rfl ?_
        refine g_iconst 33 (0 : Int32) dM_odds_32 rfl (by decide) ?_
        refine g_iconst 34 (1 : Int32) dM_odds_33 rfl (by decide) ?_
        refine g_cS 37 (some (.int (fM_isIn v7 (0 : Int32) (1 : Int32)))) w [.int v7, .int (0 : Int32), .int (1 : Int32)] [] dM_odds_34 rfl (fun _ hK2 => mM_isIn (d - 1) (by omega) rfl hK2) kM_48 (x_rm (Nat.le_trans (by decide) hd) (by decide)) ⟨Nat.zero_le _, Nat.zero_le _⟩ (Nat.le_of_ble_eq_true rfl) rfl ?_
        by_cases c8 : (fM_isIn v7 (0 : Int32) (1 : Int32)) = (0 : Int32)
        · rw [if_pos c8] at h
          refine g_if_ne_f 40 43 dM_odds_37 (by decide) rfl c8 ?_
          refine g_bipush 42 (-2 : Int32) dM_odds_40 rfl (by decide) ?_
          obtain rfl := Option.some.inj h
          exact g_iret rfl dM_odds_42 hK
        · rw [if_neg c8] at h
          refine g_if_ne_t 43 dM_odds_37 (by decide) c8 ?_
          refine g_lconst 44 (0 : Int64) dM_odds_43 rfl (by decide) ?_
          refine g_lstore 46 [some (.ref v0), some (.int v1), some (.int v2), some (.int v3), some (.int v4), some (.int v5), some (.int v6), some (.int v7), some (.long (0 : Int64)), none, none, none, none, none, none] dM_odds_44 rfl rfl (by decide) ?_
          refine g_lconst 47 (0 : Int64) dM_odds_46 rfl (by decide) ?_
          refine g_lstore 49 [some (.ref v0), some (.int v1), some (.int v2), some (.int v3), some (.int v4), some (.int v5), some (.int v6), some (.int v7), some (.long (0 : Int64)), none, some (.long (0 : Int64)), none, none, none, none] dM_odds_47 rfl rfl (by decide) ?_
          refine g_iconst 50 (0 : Int32) dM_odds_49 rfl (by decide) ?_
          refine g_istore 52 [some (.ref v0), some (.int v1), some (.int v2), some (.int v3), some (.int v4), some (.int v5), some (.int v6), some (.int v7), some (.long (0 : Int64)), none, some (.long (0 : Int64)), none, some (.int (0 : Int32)), none, none] dM_odds_50 rfl rfl (by decide) ?_
          exact lM_odds_52 d hd hK x_F _ _ _ _ _ _ _ _ _ _ _ h
/-! ActSurgeryModel.would(IIIIIII)I: level P -/
theorem dM_would_0 : decode cM_would 0 = .ok (.aload_n 0, 1) := by decide +kernel
theorem dM_would_1 : decode cM_would 1 = .ok (.iload_n 1, 1) := by decide +kernel
theorem dM_would_2 : decode cM_would 2 = .ok (.iload_n 2, 1) := by decide +kernel
theorem dM_would_3 : decode cM_would 3 = .ok (.invokevirtual 166, 3) := by decide +kernel
theorem dM_would_6 : decode cM_would 6 = .ok (.ifCond .eq 34, 3) := by decide +kernel
theorem dM_would_9 : decode cM_would 9 = .ok (.aload_n 0, 1) := by decide +kernel
theorem dM_would_10 : decode cM_would 10 = .ok (.iload_n 3, 1) := by decide +kernel
theorem dM_would_11 : decode cM_would 11 = .ok (.iload 4, 2) := by decide +kernel
theorem dM_would_13 : decode cM_would 13 = .ok (.invokevirtual 166, 3) := by decide +kernel
theorem dM_would_16 : decode cM_would 16 = .ok (.ifCond .eq 24, 3) := by decide +kernel
theorem dM_would_19 : decode cM_would 19 = .ok (.aload_n 0, 1) := by decide +kernel
theorem dM_would_20 : decode cM_would 20 = .ok (.iload 5, 2) := by decide +kernel
theorem dM_would_22 : decode cM_would 22 = .ok (.iload 6, 2) := by decide +kernel
theorem dM_would_24 : decode cM_would 24 = .ok (.invokevirtual 166, 3) := by decide +kernel
theorem dM_would_27 : decode cM_would 27 = .ok (.ifCond .eq 13, 3) := by decide +kernel
theorem dM_would_30 : decode cM_would 30 = .ok (.iload 7, 2) := by decide +kernel
theorem dM_would_32 : decode cM_would 32 = .ok (.iconst 0, 1) := by decide +kernel
theorem dM_would_33 : decode cM_would 33 = .ok (.iconst 1, 1) := by decide +kernel
theorem dM_would_34 : decode cM_would 34 = .ok (.invokestatic 48, 3) := by decide +kernel
theorem dM_would_37 : decode cM_would 37 = .ok (.ifCond .ne 6, 3) := by decide +kernel
theorem dM_would_40 : decode cM_would 40 = .ok (.bipush (-2), 2) := by decide +kernel
theorem dM_would_42 : decode cM_would 42 = .ok (.ireturn, 1) := by decide +kernel
theorem dM_would_43 : decode cM_would 43 = .ok (.lconst 0, 1) := by decide +kernel
theorem dM_would_44 : decode cM_would 44 = .ok (.lstore 8, 2) := by decide +kernel
theorem dM_would_46 : decode cM_would 46 = .ok (.lconst 0, 1) := by decide +kernel
theorem dM_would_47 : decode cM_would 47 = .ok (.lstore 10, 2) := by decide +kernel
theorem dM_would_49 : decode cM_would 49 = .ok (.iconst 0, 1) := by decide +kernel
theorem dM_would_50 : decode cM_would 50 = .ok (.istore 12, 2) := by decide +kernel
theorem dM_would_52 : decode cM_would 52 = .ok (.iload 12, 2) := by decide +kernel
theorem dM_would_54 : decode cM_would 54 = .ok (.aload_n 0, 1) := by decide +kernel
theorem dM_would_55 : decode cM_would 55 = .ok (.invokevirtual 52, 3) := by decide +kernel
theorem dM_would_58 : decode cM_would 58 = .ok (.if_icmp .gt 82, 3) := by decide +kernel
theorem dM_would_61 : decode cM_would 61 = .ok (.iload 12, 2) := by decide +kernel
theorem dM_would_63 : decode cM_would 63 = .ok (.iload 5, 2) := by decide +kernel
theorem dM_would_65 : decode cM_would 65 = .ok (.iand, 1) := by decide +kernel
theorem dM_would_66 : decode cM_would 66 = .ok (.iload 6, 2) := by decide +kernel
theorem dM_would_68 : decode cM_would 68 = .ok (.if_icmp .ne 66, 3) := by decide +kernel
theorem dM_would_71 : decode cM_would 71 = .ok (.lload 10, 2) := by decide +kernel
theorem dM_would_73 : decode cM_would 73 = .ok (.aload_n 0, 1) := by decide +kernel
theorem dM_would_74 : decode cM_would 74 = .ok (.iconst 0, 1) := by decide +kernel
theorem dM_would_75 : decode cM_would 75 = .ok (.iload 12, 2) := by decide +kernel
theorem dM_would_77 : decode cM_would 77 = .ok (.iconst 0, 1) := by decide +kernel
theorem dM_would_78 : decode cM_would 78 = .ok (.iconst 0, 1) := by decide +kernel
theorem dM_would_79 : decode cM_would 79 = .ok (.invokevirtual 169, 3) := by decide +kernel
theorem dM_would_82 : decode cM_would 82 = .ok (.ladd, 1) := by decide +kernel
theorem dM_would_83 : decode cM_would 83 = .ok (.lstore 10, 2) := by decide +kernel
theorem dM_would_85 : decode cM_would 85 = .ok (.iconst 0, 1) := by decide +kernel
theorem dM_would_86 : decode cM_would 86 = .ok (.istore 13, 2) := by decide +kernel
theorem dM_would_88 : decode cM_would 88 = .ok (.iload 13, 2) := by decide +kernel
theorem dM_would_90 : decode cM_would 90 = .ok (.aload_n 0, 1) := by decide +kernel
theorem dM_would_91 : decode cM_would 91 = .ok (.invokevirtual 52, 3) := by decide +kernel
theorem dM_would_94 : decode cM_would 94 = .ok (.if_icmp .gt 40, 3) := by decide +kernel
theorem dM_would_97 : decode cM_would 97 = .ok (.iload 13, 2) := by decide +kernel
theorem dM_would_99 : decode cM_would 99 = .ok (.iload_n 1, 1) := by decide +kernel
theorem dM_would_100 : decode cM_would 100 = .ok (.iand, 1) := by decide +kernel
theorem dM_would_101 : decode cM_would 101 = .ok (.iload_n 2, 1) := by decide +kernel
theorem dM_would_102 : decode cM_would 102 = .ok (.if_icmp .ne 22, 3) := by decide +kernel
theorem dM_would_105 : decode cM_would 105 = .ok (.lload 8, 2) := by decide +kernel
theorem dM_would_107 : decode cM_would 107 = .ok (.aload_n 0, 1) := by decide +kernel
theorem dM_would_108 : decode cM_would 108 = .ok (.iload 12, 2) := by decide +kernel
theorem dM_would_110 : decode cM_would 110 = .ok (.iconst 0, 1) := by decide +kernel
theorem dM_would_111 : decode cM_would 111 = .ok (.iconst 0, 1) := by decide +kernel
theorem dM_would_112 : decode cM_would 112 = .ok (.iload 13, 2) := by decide +kernel
theorem dM_would_114 : decode cM_would 114 = .ok (.iload_n 3, 1) := by decide +kernel
theorem dM_would_115 : decode cM_would 115 = .ok (.iload 4, 2) := by decide +kernel
theorem dM_would_117 : decode cM_would 117 = .ok (.invokevirtual 177, 3) := by decide +kernel
theorem dM_would_120 : decode cM_would 120 = .ok (.ladd, 1) := by decide +kernel
theorem dM_would_121 : decode cM_would 121 = .ok (.goto 5, 3) := by decide +kernel
theorem dM_would_124 : decode cM_would 124 = .ok (.lload 8, 2) := by decide +kernel
theorem dM_would_126 : decode cM_would 126 = .ok (.lstore 8, 2) := by decide +kernel
theorem dM_would_128 : decode cM_would 128 = .ok (.iinc 13 1, 3) := by decide +kernel
theorem dM_would_131 : decode cM_would 131 = .ok (.goto (-43), 3) := by decide +kernel
theorem dM_would_134 : decode cM_would 134 = .ok (.iinc 12 1, 3) := by decide +kernel
theorem dM_would_137 : decode cM_would 137 = .ok (.goto (-85), 3) := by decide +kernel
theorem dM_would_140 : decode cM_would 140 = .ok (.lload 10, 2) := by decide +kernel
theorem dM_would_142 : decode cM_would 142 = .ok (.lconst 0, 1) := by decide +kernel
theorem dM_would_143 : decode cM_would 143 = .ok (.lcmp, 1) := by decide +kernel
theorem dM_would_144 : decode cM_would 144 = .ok (.ifCond .ne 7, 3) := by decide +kernel
theorem dM_would_147 : decode cM_would 147 = .ok (.iconst (-1), 1) := by decide +kernel
theorem dM_would_148 : decode cM_would 148 = .ok (.goto 12, 3) := by decide +kernel
theorem dM_would_151 : decode cM_would 151 = .ok (.lload 8, 2) := by decide +kernel
theorem dM_would_153 : decode cM_would 153 = .ok (.lload 10, 2) := by decide +kernel
theorem dM_would_155 : decode cM_would 155 = .ok (.iload 7, 2) := by decide +kernel
theorem dM_would_157 : decode cM_would 157 = .ok (.invokestatic 173, 3) := by decide +kernel
theorem dM_would_160 : decode cM_would 160 = .ok (.ireturn, 1) := by decide +kernel
theorem tw_3_231 : (Jvm.Cond.instanceMethod ({ cls := "ActSurgeryModel", name := "twoDraws", desc := "(IIIIII)J" } : Jvm.MethodName)) ∈ x_GT := x_t3 231 rfl rfl
theorem tws_59 : (Jvm.Cond.selects "ActSurgeryModel" ({ cls := "ActSurgeryModel", name := "twoDraws", desc := "(IIIIII)J" } : Jvm.MethodName) ({ cls := "ActSurgeryModel", name := "twoDraws", desc := "(IIIIII)J" } : Jvm.MethodName)) ∈ x_GT := x_ts 59 rfl rfl
theorem tw_3_232 : (Jvm.Cond.code ({ cls := "ActSurgeryModel", name := "twoDraws", desc := "(IIIIII)J" } : Jvm.MethodName) prog_7_method_50_code (17 : Nat) (Option.some Jvm.ClassFile.FieldType.long)) ∈ x_GT := x_t3 232 rfl rfl
theorem tw_3_229 : (Jvm.Cond.methodLink "ActSurgeryModel" (177 : Nat) ({ cls := "ActSurgeryModel", name := "twoDraws", desc := "(IIIIII)J" } : Jvm.MethodName)) ∈ x_GT := x_t3 229 rfl rfl
theorem kM_177 : x_kV "ActSurgeryModel" 177 yM_twoDraws cM_twoDraws 17 (some .long) 6 5 := ⟨tw_3_231, tws_59, tw_3_232, tw_1_6, tw_3_229, (by decide +kernel), rfl⟩
def fM_would_88 (w : x_W) (k52 : Nat → Int32 → Int32 → Int32 → Int32 → Int32 → Int32 → Int32 → Int64 → Int64 → Int32 → Option Int32) : Nat → Nat → Int32 → Int32 → Int32 → Int32 → Int32 → Int32 → Int32 → Int64 → Int64 → Int32 → Int32 → Option Int32
  | 0, _, _, _, _, _, _, _, _, _, _, _, _ => none
  | n + 1, v0, v1, v2, v3, v4, v5, v6, v7, v8, v10, v12, v13 =>
    (x_ob w v0 5).bind fun _ =>
    (fM_all w v0).bind fun t2 =>
    if t2 < v13 then
      k52 v0 v1 v2 v3 v4 v5 v6 v7 v8 v10 (v12 + (1 : Int32))
    else
      if (v13 &&& v1) = v2 then
        (fM_twoDraws w v0 v12 (0 : Int32) (0 : Int32) v13 v3 v4).bind fun t5 =>
        fM_would_88 w k52 n v0 v1 v2 v3 v4 v5 v6 v7 (v8 + t5) v10 v12 (v13 + (1 : Int32))
      else
        fM_would_88 w k52 n v0 v1 v2 v3 v4 v5 v6 v7 v8 v10 v12 (v13 + (1 : Int32))
def fM_would_52 (w : x_W) : Nat → Nat → Int32 → Int32 → Int32 → Int32 → Int32 → Int32 → Int32 → Int64 → Int64 → Int32 → Option Int32
  | 0, _, _, _, _, _, _, _, _, _, _, _ => none
  | n + 1, v0, v1, v2, v3, v4, v5, v6, v7, v8, v10, v12 =>
    (x_ob w v0 5).bind fun _ =>
    (fM_all w v0).bind fun t2 =>
    if t2 < v12 then
      if (lg_cmp v10 (0 : Int64)) = (0 : Int32) then
        some (-1 : Int32)
      else
        (fM_part v8 v10 v7).bind fun t5 =>
        some t5
    else
      if (v12 &&& v5) = v6 then
        (fM_draws w v0 (0 : Int32) v12 (0 : Int32) (0 : Int32)).bind fun t7 =>
        fM_would_88 w (fM_would_52 w n) x_F v0 v1 v2 v3 v4 v5 v6 v7 v8 (v10 + t7) v12 (0 : Int32)
      else
        fM_would_52 w n v0 v1 v2 v3 v4 v5 v6 v7 v8 v10 (v12 + (1 : Int32))
def fM_would (w : x_W) (v0 : Nat) (v1 : Int32) (v2 : Int32) (v3 : Int32) (v4 : Int32) (v5 : Int32) (v6 : Int32) (v7 : Int32) : Option Int32 :=
  (x_ob w v0 5).bind fun _ =>
  (fM_isValues w v0 v1 v2).bind fun t2 =>
  if t2 = (0 : Int32) then
    some (-2 : Int32)
  else
    (fM_isValues w v0 v3 v4).bind fun t4 =>
    if t4 = (0 : Int32) then
      some (-2 : Int32)
    else
      (fM_isValues w v0 v5 v6).bind fun t6 =>
      if t6 = (0 : Int32) then
        some (-2 : Int32)
      else
        if (fM_isIn v7 (0 : Int32) (1 : Int32)) = (0 : Int32) then
          some (-2 : Int32)
        else
          fM_would_52 w x_F v0 v1 v2 v3 v4 v5 v6 v7 (0 : Int64) (0 : Int64) (0 : Int32)
set_option maxHeartbeats 4000000 in
set_option maxRecDepth 100000 in
theorem lM_would_88 (d : Nat) (hd : 5 ≤ d) {K : Option Value → x_W → Prop} {r : Int32} {w : x_W} (hK : K (some (.int r)) w) {k52 : Nat → Int32 → Int32 → Int32 → Int32 → Int32 → Int32 → Int32 → Int64 → Int64 → Int32 → Option Int32} (hk52 : ∀ (v0 : Nat) (v1 : Int32) (v2 : Int32) (v3 : Int32) (v4 : Int32) (v5 : Int32) (v6 : Int32) (v7 : Int32) (v8 : Int64) (v10 : Int64) (v12 : Int32), k52 v0 v1 v2 v3 v4 v5 v6 v7 v8 v10 v12 = some r → x_G none yM_would cM_would 14 (some .int) (x_room d 0 0) (x_QM K 0 0) 52 [some (.ref v0), some (.int v1), some (.int v2), some (.int v3), some (.int v4), some (.int v5), some (.int v6), some (.int v7), some (.long v8), none, some (.long v10), none, some (.int v12), none] [] w 0 0) : ∀ (n : Nat) (v0 : Nat) (v1 : Int32) (v2 : Int32) (v3 : Int32) (v4 : Int32) (v5 : Int32) (v6 : Int32) (v7 : Int32) (v8 : Int64) (v10 : Int64) (v12 : Int32) (v13 : Int32), fM_would_88 w k52 n v0 v1 v2 v3 v4 v5 v6 v7 v8 v10 v12 v13 = some r → x_G none yM_would cM_would 14 (some .int) (x_room d 0 0) (x_QM K 0 0) 88 [some (.ref v0), some (.int v1), some (.int v2), some (.int v3), some (.int v4), some (.int v5), some (.int v6), some (.int v7), some (.long v8), none, some (.long v10), none, some (.int v12), some (.int v13)] [] w 0 0 := by
  intro n
  induction n with
  | zero => intro v0 v1 v2 v3 v4 v5 v6 v7 v8 v10 v12 v13 h; rw [fM_would_88] at h; cases h
  | succ n ih =>
    intro v0 v1 v2 v3 v4 v5 v6 v7 v8 v10 v12 v13 h
    rw [fM_would_88] at h
    refine g_iload 90 dM_would_88 rfl rfl ?_
    refine g_aload_n 91 (i := 0) dM_would_90 rfl rfl rfl ?_
    obtain ⟨_, e1, h⟩ := x_bind h
    obtain ⟨t2, e2, h⟩ := x_bind h
    refine g_cV 94 (some (.int t2)) w [] [.int v13] dM_would_91 rfl (fun _ hK2 => mM_all (d - 1) (by omega) e2 hK2) (x_ob_some e1) kM_52 (x_rm (Nat.le_trans (by decide) hd) (by decide)) ⟨Nat.zero_le _, Nat.zero_le _⟩ (Nat.le_of_ble_eq_true rfl) rfl ?_
    by_cases c3 : t2 < v13
    · rw [if_pos c3] at h
      refine g_icmp_gt_t 134 dM_would_94 (by decide) c3 ?_
      refine g_iinc 137 [some (.ref v0), some (.int v1), some (.int v2), some (.int v3), some (.int v4), some (.int v5), some (.int v6), some (.int v7), some (.long v8), none, some (.long v10), none, some (.int (v12 + (1 : Int32))), some (.int v13)] dM_would_134 rfl rfl (x_inc (1 : Int32) (by decide)) rfl (by decide) ?_
      refine g_goto 52 dM_would_137 (by decide) ?_
      refine g_less [some (.ref v0), some (.int v1), some (.int v2), some (.int v3), some (.int v4), some (.int v5), some (.int v6), some (.int v7), some (.long v8), none, some (.long v10), none, some (.int (v12 + (1 : Int32))), none] ⟨rfl, rfl, rfl, rfl, rfl, rfl, rfl, rfl, rfl, rfl, rfl, trivial⟩ ?_
      exact hk52 _ _ _ _ _ _ _ _ _ _ _ h
    · rw [if_neg c3] at h
      refine g_icmp_gt_f 97 134 dM_would_94 (by decide) rfl c3 ?_
      refine g_iload 99 dM_would_97 rfl rfl ?_
      refine g_iload_n 100 (i := 1) dM_would_99 rfl rfl rfl ?_
      refine g_iand 101 dM_would_100 rfl ?_
      refine g_iload_n 102 (i := 2) dM_would_101 rfl rfl rfl ?_
      by_cases c4 : (v13 &&& v1) = v2
      · rw [if_pos c4] at h
        refine g_icmp_ne_f 105 124 dM_would_102 (by decide) rfl c4 ?_
        refine g_lload 107 dM_would_105 rfl rfl ?_
        refine g_aload_n 108 (i := 0) dM_would_107 rfl rfl rfl ?_
        refine g_iload 110 dM_would_108 rfl rfl ?_
        refine g_iconst 111 (0 : Int32) dM_would_110 rfl (by decide) ?_
        refine g_iconst 112 (0 : Int32) dM_would_111 rfl (by decide) ?_
        refine g_iload 114 dM_would_112 rfl rfl ?_
        refine g_iload_n 115 (i := 3) dM_would_114 rfl rfl rfl ?_
        refine g_iload 117 dM_would_115 rfl rfl ?_
        obtain ⟨t5, e5, h⟩ := x_bind h
        refine g_cV 120 (some (.long t5)) w [.int v12, .int (0 : Int32), .int (0 : Int32), .int v13, .int v3, .int v4] [.long v8] dM_would_117 rfl (fun _ hK2 => mM_twoDraws (d - 1) (by omega) e5 hK2) (x_ob_some e1) kM_177 (x_rm (Nat.le_trans (by decide) hd) (by decide)) ⟨Nat.zero_le _, Nat.zero_le _⟩ (Nat.le_of_ble_eq_true rfl) rfl ?_
        refine g_ladd 121 dM_would_120 rfl ?_
        refine g_goto 126 dM_would_121 (by decide) ?_
        refine g_lstore 128 [some (.ref v0), some (.int v1), some (.int v2), some (.int v3), some (.int v4), some (.int v5), some (.int v6), some (.int v7), some (.long (v8 + t5)), none, some (.long v10), none, some (.int v12), some (.int v13)] dM_would_126 rfl rfl (by decide) ?_
        refine g_iinc 131 [some (.ref v0), some (.int v1), some (.int v2), some (.int v3), some (.int v4), some (.int v5), some (.int v6), some (.int v7), some (.long (v8 + t5)), none, some (.long v10), none, some (.int v12), some (.int (v13 + (1 : Int32)))] dM_would_128 rfl rfl (x_inc (1 : Int32) (by decide)) rfl (by decide) ?_
        refine g_goto 88 dM_would_131 (by decide) ?_
        exact ih _ _ _ _ _ _ _ _ _ _ _ _ h
      · rw [if_neg c4] at h
        refine g_icmp_ne_t 124 dM_would_102 (by decide) c4 ?_
        refine g_lload 126 dM_would_124 rfl rfl ?_
        refine g_lstore 128 [some (.ref v0), some (.int v1), some (.int v2), some (.int v3), some (.int v4), some (.int v5), some (.int v6), some (.int v7), some (.long v8), none, some (.long v10), none, some (.int v12), some (.int v13)] dM_would_126 rfl rfl (by decide) ?_
        refine g_iinc 131 [some (.ref v0), some (.int v1), some (.int v2), some (.int v3), some (.int v4), some (.int v5), some (.int v6), some (.int v7), some (.long v8), none, some (.long v10), none, some (.int v12), some (.int (v13 + (1 : Int32)))] dM_would_128 rfl rfl (x_inc (1 : Int32) (by decide)) rfl (by decide) ?_
        refine g_goto 88 dM_would_131 (by decide) ?_
        exact ih _ _ _ _ _ _ _ _ _ _ _ _ h
set_option maxHeartbeats 4000000 in
set_option maxRecDepth 100000 in
theorem lM_would_52 (d : Nat) (hd : 5 ≤ d) {K : Option Value → x_W → Prop} {r : Int32} {w : x_W} (hK : K (some (.int r)) w) : ∀ (n : Nat) (v0 : Nat) (v1 : Int32) (v2 : Int32) (v3 : Int32) (v4 : Int32) (v5 : Int32) (v6 : Int32) (v7 : Int32) (v8 : Int64) (v10 : Int64) (v12 : Int32), fM_would_52 w n v0 v1 v2 v3 v4 v5 v6 v7 v8 v10 v12 = some r → x_G none yM_would cM_would 14 (some .int) (x_room d 0 0) (x_QM K 0 0) 52 [some (.ref v0), some (.int v1), some (.int v2), some (.int v3), some (.int v4), some (.int v5), some (.int v6), some (.int v7), some (.long v8), none, some (.long v10), none, some (.int v12), none] [] w 0 0 := by
  intro n
  induction n with
  | zero => intro v0 v1 v2 v3 v4 v5 v6 v7 v8 v10 v12 h; rw [fM_would_52] at h; cases h
  | succ n ih =>
    intro v0 v1 v2 v3 v4 v5 v6 v7 v8 v10 v12 h
    rw [fM_would_52] at h
    refine g_iload 54 dM_would_52 rfl rfl ?_
    refine g_aload_n 55 (i := 0) dM_would_54 rfl rfl rfl ?_
    obtain ⟨_, e1, h⟩ := x_bind h
    obtain ⟨t2, e2, h⟩ := x_bind h
    refine g_cV 58 (some (.int t2)) w [] [.int v12] dM_would_55 rfl (fun _ hK2 => mM_all (d - 1) (by omega) e2 hK2) (x_ob_some e1) kM_52 (x_rm (Nat.le_trans (by decide) hd) (by decide)) ⟨Nat.zero_le _, Nat.zero_le _⟩ (Nat.le_of_ble_eq_true rfl) rfl ?_
    by_cases c3 : t2 < v12
    · rw [if_pos c3] at h
      refine g_icmp_gt_t 140 dM_would_58 (by decide) c3 ?_
      refine g_lload 142 dM_would_140 rfl rfl ?_
      refine g_lconst 143 (0 : Int64) dM_would_142 rfl (by decide) ?_
      refine g_lcmp 144 dM_would_143 rfl ?_
      by_cases c4 : (lg_cmp v10 (0 : Int64)) = (0 : Int32)
      · rw [if_pos c4] at h
        refine g_if_ne_f 147 151 dM_would_144 (by decide) rfl c4 ?_
        refine g_iconst 148 (-1 : Int32) dM_would_147 rfl (by decide) ?_
        refine g_goto 160 dM_would_148 (by decide) ?_
        obtain rfl := Option.some.inj h
        exact g_iret rfl dM_would_160 hK
      · rw [if_neg c4] at h
        refine g_if_ne_t 151 dM_would_144 (by decide) c4 ?_
        refine g_lload 153 dM_would_151 rfl rfl ?_
        refine g_lload 155 dM_would_153 rfl rfl ?_
        refine g_iload 157 dM_would_155 rfl rfl ?_
        obtain ⟨t5, e5, h⟩ := x_bind h
        refine g_cS 160 (some (.int t5)) w [.long v8, .long v10, .int v7] [] dM_would_157 rfl (fun _ hK2 => mM_part (d - 1) (by omega) e5 hK2) kM_173 (x_rm (Nat.le_trans (by decide) hd) (by decide)) ⟨Nat.zero_le _, Nat.zero_le _⟩ (Nat.le_of_ble_eq_true rfl) rfl ?_
        obtain rfl := Option.some.inj h
        exact g_iret rfl dM_would_160 hK
    · rw [if_neg c3] at h
      refine g_icmp_gt_f 61 140 dM_would_58 (by decide) rfl c3 ?_
      refine g_iload 63 dM_would_61 rfl rfl ?_
      refine g_iload 65 dM_would_63 rfl rfl ?_
      refine g_iand 66 dM_would_65 rfl ?_
      refine g_iload 68 dM_would_66 rfl rfl ?_
      by_cases c6 : (v12 &&& v5) = v6
      · rw [if_pos c6] at h
        refine g_icmp_ne_f 71 134 dM_would_68 (by decide) rfl c6 ?_
        refine g_lload 73 dM_would_71 rfl rfl ?_
        refine g_aload_n 74 (i := 0) dM_would_73 rfl rfl rfl ?_
        refine g_iconst 75 (0 : Int32) dM_would_74 rfl (by decide) ?_
        refine g_iload 77 dM_would_75 rfl rfl ?_
        refine g_iconst 78 (0 : Int32) dM_would_77 rfl (by decide) ?_
        refine g_iconst 79 (0 : Int32) dM_would_78 rfl (by decide) ?_
        obtain ⟨t7, e7, h⟩ := x_bind h
        refine g_cV 82 (some (.long t7)) w [.int (0 : Int32), .int v12, .int (0 : Int32), .int (0 : Int32)] [.long v10] dM_would_79 rfl (fun _ hK2 => mM_draws (d - 1) (by omega) e7 hK2) (x_ob_some e1) kM_169 (x_rm (Nat.le_trans (by decide) hd) (by decide)) ⟨Nat.zero_le _, Nat.zero_le _⟩ (Nat.le_of_ble_eq_true rfl) rfl ?_
        refine g_ladd 83 dM_would_82 rfl ?_
        refine g_lstore 85 [some (.ref v0), some (.int v1), some (.int v2), some (.int v3), some (.int v4), some (.int v5), some (.int v6), some (.int v7), some (.long v8), none, some (.long (v10 + t7)), none, some (.int v12), none] dM_would_83 rfl rfl (by decide) ?_
        refine g_iconst 86 (0 : Int32) dM_would_85 rfl (by decide) ?_
        refine g_istore 88 [some (.ref v0), some (.int v1), some (.int v2), some (.int v3), some (.int v4), some (.int v5), some (.int v6), some (.int v7), some (.long v8), none, some (.long (v10 + t7)), none, some (.int v12), some (.int (0 : Int32))] dM_would_86 rfl rfl (by decide) ?_
        exact lM_would_88 d hd hK (fun _ _ _ _ _ _ _ _ _ _ _ hz => ih _ _ _ _ _ _ _ _ _ _ _ hz) x_F _ _ _ _ _ _ _ _ _ _ _ _ h
      · rw [if_neg c6] at h
        refine g_icmp_ne_t 134 dM_would_68 (by decide) c6 ?_
        refine g_iinc 137 [some (.ref v0), some (.int v1), some (.int v2), some (.int v3), some (.int v4), some (.int v5), some (.int v6), some (.int v7), some (.long v8), none, some (.long v10), none, some (.int (v12 + (1 : Int32))), none] dM_would_134 rfl rfl (x_inc (1 : Int32) (by decide)) rfl (by decide) ?_
        refine g_goto 52 dM_would_137 (by decide) ?_
        exact ih _ _ _ _ _ _ _ _ _ _ _ h
set_option maxHeartbeats 4000000 in
set_option maxRecDepth 100000 in
theorem mM_would (d : Nat) (hd : 5 ≤ d) {K : Option Value → x_W → Prop} {w : x_W} {v0 : Nat} {v1 : Int32} {v2 : Int32} {v3 : Int32} {v4 : Int32} {v5 : Int32} {v6 : Int32} {v7 : Int32} {r : Int32} (h : fM_would w v0 v1 v2 v3 v4 v5 v6 v7 = some r) (hK : K (some (.int r)) w) : x_M yM_would cM_would 14 (some .int) d 0 0 [.ref v0, .int v1, .int v2, .int v3, .int v4, .int v5, .int v6, .int v7] w K := by
  refine x_M.of [some (.ref v0), some (.int v1), some (.int v2), some (.int v3), some (.int v4), some (.int v5), some (.int v6), some (.int v7), none, none, none, none, none, none] (by decide) rfl (Nat.le_of_ble_eq_true rfl) ?_
  unfold fM_would at h
  refine g_aload_n 1 (i := 0) dM_would_0 rfl rfl rfl ?_
  refine g_iload_n 2 (i := 1) dM_would_1 rfl rfl rfl ?_
  refine g_iload_n 3 (i := 2) dM_would_2 rfl rfl rfl ?_
  obtain ⟨_, e1, h⟩ := x_bind h
  obtain ⟨t2, e2, h⟩ := x_bind h
  refine g_cV 6 (some (.int t2)) w [.int v1, .int v2] [] dM_would_3 rfl (fun _ hK2 => mM_isValues (d - 1) (by omega) e2 hK2) (x_ob_some e1) kM_166 (x_rm (Nat.le_trans (by decide) hd) (by decide)) ⟨Nat.zero_le _, Nat.zero_le _⟩ (Nat.le_of_ble_eq_true rfl) rfl ?_
  by_cases c3 : t2 = (0 : Int32)
  · rw [if_pos c3] at h
    refine g_if_eq_t 40 dM_would_6 (by decide) c3 ?_
    refine g_bipush 42 (-2 : Int32) dM_would_40 rfl (by decide) ?_
    obtain rfl := Option.some.inj h
    exact g_iret rfl dM_would_42 hK
  · rw [if_neg c3] at h
    refine g_if_eq_f 9 40 dM_would_6 (by decide) rfl c3 ?_
    refine g_aload_n 10 (i := 0) dM_would_9 rfl rfl rfl ?_
    refine g_iload_n 11 (i := 3) dM_would_10 rfl rfl rfl ?_
    refine g_iload 13 dM_would_11 rfl rfl ?_
    obtain ⟨t4, e4, h⟩ := x_bind h
    refine g_cV 16 (some (.int t4)) w [.int v3, .int v4] [] dM_would_13 rfl (fun _ hK2 => mM_isValues (d - 1) (by omega) e4 hK2) (x_ob_some e1) kM_166 (x_rm (Nat.le_trans (by decide) hd) (by decide)) ⟨Nat.zero_le _, Nat.zero_le _⟩ (Nat.le_of_ble_eq_true rfl) rfl ?_
    by_cases c5 : t4 = (0 : Int32)
    · rw [if_pos c5] at h
      refine g_if_eq_t 40 dM_would_16 (by decide) c5 ?_
      refine g_bipush 42 (-2 : Int32) dM_would_40 rfl (by decide) ?_
      obtain rfl := Option.some.inj h
      exact g_iret rfl dM_would_42 hK
    · rw [if_neg c5] at h
      refine g_if_eq_f 19 40 dM_would_16 (by decide) rfl c5 ?_
      refine g_aload_n 20 (i := 0) dM_would_19 rfl rfl rfl ?_
      refine g_iload 22 dM_would_20 rfl rfl ?_
      refine g_iload 24 dM_would_22 rfl rfl ?_
      obtain ⟨t6, e6, h⟩ := x_bind h
      refine g_cV 27 (some (.int t6)) w [.int v5, .int v6] [] dM_would_24 rfl (fun _ hK2 => mM_isValues (d - 1) (by omega) e6 hK2) (x_ob_some e1) kM_166 (x_rm (Nat.le_trans (by decide) hd) (by decide)) ⟨Nat.zero_le _, Nat.zero_le _⟩ (Nat.le_of_ble_eq_true rfl) rfl ?_
      by_cases c7 : t6 = (0 : Int32)
      · rw [if_pos c7] at h
        refine g_if_eq_t 40 dM_would_27 (by decide) c7 ?_
        refine g_bipush 42 (-2 : Int32) dM_would_40 rfl (by decide) ?_
        obtain rfl := Option.some.inj h
        exact g_iret rfl dM_would_42 hK
      · rw [if_neg c7] at h
        refine g_if_eq_f 30 40 dM_would_27 (by decide) rfl c7 ?_
        refine g_iload 32 dM_would_30 rfl rfl ?_
        refine g_iconst 33 (0 : Int32) dM_would_32 rfl (by decide) ?_
        refine g_iconst 34 (1 : Int32) dM_would_33 rfl (by decide) ?_
        refine g_cS 37 (some (.int (fM_isIn v7 (0 : Int32) (1 : Int32)))) w [.int v7, .int (0 : Int32), .int (1 : Int32)] [] dM_would_34 rfl (fun _ hK2 => mM_isIn (d - 1) (by omega) rfl hK2) kM_48 (x_rm (Nat.le_trans (by decide) hd) (by decide)) ⟨Nat.zero_le _, Nat.zero_le _⟩ (Nat.le_of_ble_eq_true rfl) rfl ?_
        by_cases c8 : (fM_isIn v7 (0 : Int32) (1 : Int32)) = (0 : Int32)
        · rw [if_pos c8] at h
          refine g_if_ne_f 40 43 dM_would_37 (by decide) rfl c8 ?_
          refine g_bipush 42 (-2 : Int32) dM_would_40 rfl (by decide) ?_
          obtain rfl := Option.some.inj h
          exact g_iret rfl dM_would_42 hK
        · rw [if_neg c8] at h
          refine g_if_ne_t 43 dM_would_37 (by decide) c8 ?_
          refine g_lconst 44 (0 : Int64) dM_would_43 rfl (by decide) ?_
          refine g_lstore 46 [some (.ref v0), some (.int v1), some (.int v2), some (.int v3), some (.int v4), some (.int v5), some (.int v6), some (.int v7), some (.long (0 : Int64)), none, none, none, none, none] dM_would_44 rfl rfl (by decide) ?_
          refine g_lconst 47 (0 : Int64) dM_would_46 rfl (by decide) ?_
          refine g_lstore 49 [some (.ref v0), some (.int v1), some (.int v2), some (.int v3), some (.int v4), some (.int v5), some (.int v6), some (.int v7), some (.long (0 : Int64)), none, some (.long (0 : Int64)), none, none, none] dM_would_47 rfl rfl (by decide) ?_
          refine g_iconst 50 (0 : Int32) dM_would_49 rfl (by decide) ?_
          refine g_istore 52 [some (.ref v0), some (.int v1), some (.int v2), some (.int v3), some (.int v4), some (.int v5), some (.int v6), some (.int v7), some (.long (0 : Int64)), none, some (.long (0 : Int64)), none, some (.int (0 : Int32)), none] dM_would_50 rfl rfl (by decide) ?_
          exact lM_would_52 d hd hK x_F _ _ _ _ _ _ _ _ _ _ _ h
/-! ActSurgeryModel.ofOne(III)J: level P -/
theorem dM_ofOne_0 : decode cM_ofOne 0 = .ok (.lconst 0, 1) := by decide +kernel
theorem dM_ofOne_1 : decode cM_ofOne 1 = .ok (.lstore 4, 2) := by decide +kernel
theorem dM_ofOne_3 : decode cM_ofOne 3 = .ok (.iconst 0, 1) := by decide +kernel
theorem dM_ofOne_4 : decode cM_ofOne 4 = .ok (.istore 6, 2) := by decide +kernel
theorem dM_ofOne_6 : decode cM_ofOne 6 = .ok (.iload 6, 2) := by decide +kernel
theorem dM_ofOne_8 : decode cM_ofOne 8 = .ok (.aload_n 0, 1) := by decide +kernel
theorem dM_ofOne_9 : decode cM_ofOne 9 = .ok (.invokevirtual 52, 3) := by decide +kernel
theorem dM_ofOne_12 : decode cM_ofOne 12 = .ok (.if_icmp .gt 41, 3) := by decide +kernel
theorem dM_ofOne_15 : decode cM_ofOne 15 = .ok (.iload 6, 2) := by decide +kernel
theorem dM_ofOne_17 : decode cM_ofOne 17 = .ok (.iload_n 3, 1) := by decide +kernel
theorem dM_ofOne_18 : decode cM_ofOne 18 = .ok (.invokestatic 62, 3) := by decide +kernel
theorem dM_ofOne_21 : decode cM_ofOne 21 = .ok (.ifCond .eq 22, 3) := by decide +kernel
theorem dM_ofOne_24 : decode cM_ofOne 24 = .ok (.lload 4, 2) := by decide +kernel
theorem dM_ofOne_26 : decode cM_ofOne 26 = .ok (.aload_n 0, 1) := by decide +kernel
theorem dM_ofOne_27 : decode cM_ofOne 27 = .ok (.iconst 0, 1) := by decide +kernel
theorem dM_ofOne_28 : decode cM_ofOne 28 = .ok (.iload 6, 2) := by decide +kernel
theorem dM_ofOne_30 : decode cM_ofOne 30 = .ok (.iconst 1, 1) := by decide +kernel
theorem dM_ofOne_31 : decode cM_ofOne 31 = .ok (.iload_n 1, 1) := by decide +kernel
theorem dM_ofOne_32 : decode cM_ofOne 32 = .ok (.ishl, 1) := by decide +kernel
theorem dM_ofOne_33 : decode cM_ofOne 33 = .ok (.iload_n 2, 1) := by decide +kernel
theorem dM_ofOne_34 : decode cM_ofOne 34 = .ok (.iload_n 1, 1) := by decide +kernel
theorem dM_ofOne_35 : decode cM_ofOne 35 = .ok (.ishl, 1) := by decide +kernel
theorem dM_ofOne_36 : decode cM_ofOne 36 = .ok (.invokevirtual 169, 3) := by decide +kernel
theorem dM_ofOne_39 : decode cM_ofOne 39 = .ok (.ladd, 1) := by decide +kernel
theorem dM_ofOne_40 : decode cM_ofOne 40 = .ok (.goto 5, 3) := by decide +kernel
theorem dM_ofOne_43 : decode cM_ofOne 43 = .ok (.lload 4, 2) := by decide +kernel
theorem dM_ofOne_45 : decode cM_ofOne 45 = .ok (.lstore 4, 2) := by decide +kernel
theorem dM_ofOne_47 : decode cM_ofOne 47 = .ok (.iinc 6 1, 3) := by decide +kernel
theorem dM_ofOne_50 : decode cM_ofOne 50 = .ok (.goto (-44), 3) := by decide +kernel
theorem dM_ofOne_53 : decode cM_ofOne 53 = .ok (.lload 4, 2) := by decide +kernel
theorem dM_ofOne_55 : decode cM_ofOne 55 = .ok (.lreturn, 1) := by decide +kernel
def fM_ofOne_6 (w : x_W) : Nat → Nat → Int32 → Int32 → Int32 → Int64 → Int32 → Option Int64
  | 0, _, _, _, _, _, _ => none
  | n + 1, v0, v1, v2, v3, v4, v6 =>
    (x_ob w v0 5).bind fun _ =>
    (fM_all w v0).bind fun t2 =>
    if t2 < v6 then
      some v4
    else
      if (fM_has v6 v3) = (0 : Int32) then
        fM_ofOne_6 w n v0 v1 v2 v3 v4 (v6 + (1 : Int32))
      else
        (fM_draws w v0 (0 : Int32) v6 ((1 : Int32) <<< (v1 &&& 31)) (v2 <<< (v1 &&& 31))).bind fun t5 =>
        fM_ofOne_6 w n v0 v1 v2 v3 (v4 + t5) (v6 + (1 : Int32))
def fM_ofOne (w : x_W) (v0 : Nat) (v1 : Int32) (v2 : Int32) (v3 : Int32) : Option Int64 :=
  fM_ofOne_6 w x_F v0 v1 v2 v3 (0 : Int64) (0 : Int32)
set_option maxHeartbeats 4000000 in
set_option maxRecDepth 100000 in
theorem lM_ofOne_6 (d : Nat) (hd : 3 ≤ d) {K : Option Value → x_W → Prop} {r : Int64} {w : x_W} (hK : K (some (.long r)) w) : ∀ (n : Nat) (v0 : Nat) (v1 : Int32) (v2 : Int32) (v3 : Int32) (v4 : Int64) (v6 : Int32), fM_ofOne_6 w n v0 v1 v2 v3 v4 v6 = some r → x_G none yM_ofOne cM_ofOne 7 (some .long) (x_room d 0 0) (x_QM K 0 0) 6 [some (.ref v0), some (.int v1), some (.int v2), some (.int v3), some (.long v4), none, some (.int v6)] [] w 0 0 := by
  intro n
  induction n with
  | zero => intro v0 v1 v2 v3 v4 v6 h; rw [fM_ofOne_6] at h; cases h
  | succ n ih =>
    intro v0 v1 v2 v3 v4 v6 h
    rw [fM_ofOne_6] at h
    refine g_iload 8 dM_ofOne_6 rfl rfl ?_
    refine g_aload_n 9 (i := 0) dM_ofOne_8 rfl rfl rfl ?_
    obtain ⟨_, e1, h⟩ := x_bind h
    obtain ⟨t2, e2, h⟩ := x_bind h
    refine g_cV 12 (some (.int t2)) w [] [.int v6] dM_ofOne_9 rfl (fun _ hK2 => mM_all (d - 1) (by omega) e2 hK2) (x_ob_some e1) kM_52 (x_rm (Nat.le_trans (by decide) hd) (by decide)) ⟨Nat.zero_le _, Nat.zero_le _⟩ (Nat.le_of_ble_eq_true rfl) rfl ?_
    by_cases c3 : t2 < v6
    · rw [if_pos c3] at h
      refine g_icmp_gt_t 53 dM_ofOne_12 (by decide) c3 ?_
      refine g_lload 55 dM_ofOne_53 rfl rfl ?_
      obtain rfl := Option.some.inj h
      exact g_lret rfl dM_ofOne_55 hK
    · rw [if_neg c3] at h
      refine g_icmp_gt_f 15 53 dM_ofOne_12 (by decide) rfl c3 ?_
      refine g_iload 17 dM_ofOne_15 rfl rfl ?_
      refine g_iload_n 18 (i := 3) dM_ofOne_17 rfl rfl rfl ?_
      refine g_cS 21 (some (.int (fM_has v6 v3))) w [.int v6, .int v3] [] dM_ofOne_18 rfl (fun _ hK2 => mM_has (d - 1) (by omega) rfl hK2) kM_62 (x_rm (Nat.le_trans (by decide) hd) (by decide)) ⟨Nat.zero_le _, Nat.zero_le _⟩ (Nat.le_of_ble_eq_true rfl) rfl ?_
      by_cases c4 : (fM_has v6 v3) = (0 : Int32)
      · rw [if_pos c4] at h
        refine g_if_eq_t 43 dM_ofOne_21 (by decide) c4 ?_
        refine g_lload 45 dM_ofOne_43 rfl rfl ?_
        refine g_lstore 47 [some (.ref v0), some (.int v1), some (.int v2), some (.int v3), some (.long v4), none, some (.int v6)] dM_ofOne_45 rfl rfl (by decide) ?_
        refine g_iinc 50 [some (.ref v0), some (.int v1), some (.int v2), some (.int v3), some (.long v4), none, some (.int (v6 + (1 : Int32)))] dM_ofOne_47 rfl rfl (x_inc (1 : Int32) (by decide)) rfl (by decide) ?_
        refine g_goto 6 dM_ofOne_50 (by decide) ?_
        exact ih _ _ _ _ _ _ h
      · rw [if_neg c4] at h
        refine g_if_eq_f 24 43 dM_ofOne_21 (by decide) rfl c4 ?_
        refine g_lload 26 dM_ofOne_24 rfl rfl ?_
        refine g_aload_n 27 (i := 0) dM_ofOne_26 rfl rfl rfl ?_
        refine g_iconst 28 (0 : Int32) dM_ofOne_27 rfl (by decide) ?_
        refine g_iload 30 dM_ofOne_28 rfl rfl ?_
        refine g_iconst 31 (1 : Int32) dM_ofOne_30 rfl (by decide) ?_
        refine g_iload_n 32 (i := 1) dM_ofOne_31 rfl rfl rfl ?_
        refine g_ishl 33 dM_ofOne_32 rfl ?_
        refine g_iload_n 34 (i := 2) dM_ofOne_33 rfl rfl rfl ?_
        refine g_iload_n 35 (i := 1) dM_ofOne_34 rfl rfl rfl ?_
        refine g_ishl 36 dM_ofOne_35 rfl ?_
        obtain ⟨t5, e5, h⟩ := x_bind h
        refine g_cV 39 (some (.long t5)) w [.int (0 : Int32), .int v6, .int ((1 : Int32) <<< (v1 &&& 31)), .int (v2 <<< (v1 &&& 31))] [.long v4] dM_ofOne_36 rfl (fun _ hK2 => mM_draws (d - 1) (by omega) e5 hK2) (x_ob_some e1) kM_169 (x_rm (Nat.le_trans (by decide) hd) (by decide)) ⟨Nat.zero_le _, Nat.zero_le _⟩ (Nat.le_of_ble_eq_true rfl) rfl ?_
        refine g_ladd 40 dM_ofOne_39 rfl ?_
        refine g_goto 45 dM_ofOne_40 (by decide) ?_
        refine g_lstore 47 [some (.ref v0), some (.int v1), some (.int v2), some (.int v3), some (.long (v4 + t5)), none, some (.int v6)] dM_ofOne_45 rfl rfl (by decide) ?_
        refine g_iinc 50 [some (.ref v0), some (.int v1), some (.int v2), some (.int v3), some (.long (v4 + t5)), none, some (.int (v6 + (1 : Int32)))] dM_ofOne_47 rfl rfl (x_inc (1 : Int32) (by decide)) rfl (by decide) ?_
        refine g_goto 6 dM_ofOne_50 (by decide) ?_
        exact ih _ _ _ _ _ _ h
set_option maxHeartbeats 4000000 in
set_option maxRecDepth 100000 in
theorem mM_ofOne (d : Nat) (hd : 3 ≤ d) {K : Option Value → x_W → Prop} {w : x_W} {v0 : Nat} {v1 : Int32} {v2 : Int32} {v3 : Int32} {r : Int64} (h : fM_ofOne w v0 v1 v2 v3 = some r) (hK : K (some (.long r)) w) : x_M yM_ofOne cM_ofOne 7 (some .long) d 0 0 [.ref v0, .int v1, .int v2, .int v3] w K := by
  refine x_M.of [some (.ref v0), some (.int v1), some (.int v2), some (.int v3), none, none, none] (by decide) rfl (Nat.le_of_ble_eq_true rfl) ?_
  unfold fM_ofOne at h
  refine g_lconst 1 (0 : Int64) dM_ofOne_0 rfl (by decide) ?_
  refine g_lstore 3 [some (.ref v0), some (.int v1), some (.int v2), some (.int v3), some (.long (0 : Int64)), none, none] dM_ofOne_1 rfl rfl (by decide) ?_
  refine g_iconst 4 (0 : Int32) dM_ofOne_3 rfl (by decide) ?_
  refine g_istore 6 [some (.ref v0), some (.int v1), some (.int v2), some (.int v3), some (.long (0 : Int64)), none, some (.int (0 : Int32))] dM_ofOne_4 rfl rfl (by decide) ?_
  exact lM_ofOne_6 d hd hK x_F _ _ _ _ _ _ h
/-! ActSurgeryModel.effect(II)I: level P -/
theorem dM_effect_0 : decode cM_effect 0 = .ok (.aload_n 0, 1) := by decide +kernel
theorem dM_effect_1 : decode cM_effect 1 = .ok (.iload_n 1, 1) := by decide +kernel
theorem dM_effect_2 : decode cM_effect 2 = .ok (.iload_n 2, 1) := by decide +kernel
theorem dM_effect_3 : decode cM_effect 3 = .ok (.iconst 0, 1) := by decide +kernel
theorem dM_effect_4 : decode cM_effect 4 = .ok (.invokevirtual 90, 3) := by decide +kernel
theorem dM_effect_7 : decode cM_effect 7 = .ok (.ifCond .eq 22, 3) := by decide +kernel
theorem dM_effect_10 : decode cM_effect 10 = .ok (.aload_n 0, 1) := by decide +kernel
theorem dM_effect_11 : decode cM_effect 11 = .ok (.iload_n 1, 1) := by decide +kernel
theorem dM_effect_12 : decode cM_effect 12 = .ok (.iconst 1, 1) := by decide +kernel
theorem dM_effect_13 : decode cM_effect 13 = .ok (.iload_n 2, 1) := by decide +kernel
theorem dM_effect_14 : decode cM_effect 14 = .ok (.invokevirtual 181, 3) := by decide +kernel
theorem dM_effect_17 : decode cM_effect 17 = .ok (.aload_n 0, 1) := by decide +kernel
theorem dM_effect_18 : decode cM_effect 18 = .ok (.iload_n 1, 1) := by decide +kernel
theorem dM_effect_19 : decode cM_effect 19 = .ok (.iconst 0, 1) := by decide +kernel
theorem dM_effect_20 : decode cM_effect 20 = .ok (.iload_n 2, 1) := by decide +kernel
theorem dM_effect_21 : decode cM_effect 21 = .ok (.invokevirtual 181, 3) := by decide +kernel
theorem dM_effect_24 : decode cM_effect 24 = .ok (.lsub, 1) := by decide +kernel
theorem dM_effect_25 : decode cM_effect 25 = .ok (.l2i, 1) := by decide +kernel
theorem dM_effect_26 : decode cM_effect 26 = .ok (.goto 5, 3) := by decide +kernel
theorem dM_effect_29 : decode cM_effect 29 = .ok (.bipush (-2), 2) := by decide +kernel
theorem dM_effect_31 : decode cM_effect 31 = .ok (.ireturn, 1) := by decide +kernel
theorem tw_3_239 : (Jvm.Cond.instanceMethod ({ cls := "ActSurgeryModel", name := "ofOne", desc := "(III)J" } : Jvm.MethodName)) ∈ x_GT := x_t3 239 rfl rfl
theorem tws_60 : (Jvm.Cond.selects "ActSurgeryModel" ({ cls := "ActSurgeryModel", name := "ofOne", desc := "(III)J" } : Jvm.MethodName) ({ cls := "ActSurgeryModel", name := "ofOne", desc := "(III)J" } : Jvm.MethodName)) ∈ x_GT := x_ts 60 rfl rfl
theorem tw_4_0 : (Jvm.Cond.code ({ cls := "ActSurgeryModel", name := "ofOne", desc := "(III)J" } : Jvm.MethodName) prog_7_method_56_code (7 : Nat) (Option.some Jvm.ClassFile.FieldType.long)) ∈ x_GT := x_t4 0 rfl rfl
theorem tw_3_237 : (Jvm.Cond.methodLink "ActSurgeryModel" (181 : Nat) ({ cls := "ActSurgeryModel", name := "ofOne", desc := "(III)J" } : Jvm.MethodName)) ∈ x_GT := x_t3 237 rfl rfl
theorem kM_181 : x_kV "ActSurgeryModel" 181 yM_ofOne cM_ofOne 7 (some .long) 3 5 := ⟨tw_3_239, tws_60, tw_4_0, tw_1_6, tw_3_237, (by decide +kernel), rfl⟩
def fM_effect (w : x_W) (v0 : Nat) (v1 : Int32) (v2 : Int32) : Option Int32 :=
  (x_ob w v0 5).bind fun _ =>
  (fM_isPair w v0 v1 v2 (0 : Int32)).bind fun t2 =>
  if t2 = (0 : Int32) then
    some (-2 : Int32)
  else
    (fM_ofOne w v0 v1 (1 : Int32) v2).bind fun t4 =>
    (fM_ofOne w v0 v1 (0 : Int32) v2).bind fun t5 =>
    some ((t4 - t5).toInt32)
set_option maxHeartbeats 4000000 in
set_option maxRecDepth 100000 in
theorem mM_effect (d : Nat) (hd : 5 ≤ d) {K : Option Value → x_W → Prop} {w : x_W} {v0 : Nat} {v1 : Int32} {v2 : Int32} {r : Int32} (h : fM_effect w v0 v1 v2 = some r) (hK : K (some (.int r)) w) : x_M yM_effect cM_effect 3 (some .int) d 0 0 [.ref v0, .int v1, .int v2] w K := by
  refine x_M.of [some (.ref v0), some (.int v1), some (.int v2)] (by decide) rfl (Nat.le_of_ble_eq_true rfl) ?_
  unfold fM_effect at h
  refine g_aload_n 1 (i := 0) dM_effect_0 rfl rfl rfl ?_
  refine g_iload_n 2 (i := 1) dM_effect_1 rfl rfl rfl ?_
  refine g_iload_n 3 (i := 2) dM_effect_2 rfl rfl rfl ?_
  refine g_iconst 4 (0 : Int32) dM_effect_3 rfl (by decide) ?_
  obtain ⟨_, e1, h⟩ := x_bind h
  obtain ⟨t2, e2, h⟩ := x_bind h
  refine g_cV 7 (some (.int t2)) w [.int v1, .int v2, .int (0 : Int32)] [] dM_effect_4 rfl (fun _ hK2 => mM_isPair (d - 1) (by omega) e2 hK2) (x_ob_some e1) kM_90 (x_rm (Nat.le_trans (by decide) hd) (by decide)) ⟨Nat.zero_le _, Nat.zero_le _⟩ (Nat.le_of_ble_eq_true rfl) rfl ?_
  by_cases c3 : t2 = (0 : Int32)
  · rw [if_pos c3] at h
    refine g_if_eq_t 29 dM_effect_7 (by decide) c3 ?_
    refine g_bipush 31 (-2 : Int32) dM_effect_29 rfl (by decide) ?_
    obtain rfl := Option.some.inj h
    exact g_iret rfl dM_effect_31 hK
  · rw [if_neg c3] at h
    refine g_if_eq_f 10 29 dM_effect_7 (by decide) rfl c3 ?_
    refine g_aload_n 11 (i := 0) dM_effect_10 rfl rfl rfl ?_
    refine g_iload_n 12 (i := 1) dM_effect_11 rfl rfl rfl ?_
    refine g_iconst 13 (1 : Int32) dM_effect_12 rfl (by decide) ?_
    refine g_iload_n 14 (i := 2) dM_effect_13 rfl rfl rfl ?_
    obtain ⟨t4, e4, h⟩ := x_bind h
    refine g_cV 17 (some (.long t4)) w [.int v1, .int (1 : Int32), .int v2] [] dM_effect_14 rfl (fun _ hK2 => mM_ofOne (d - 1) (by omega) e4 hK2) (x_ob_some e1) kM_181 (x_rm (Nat.le_trans (by decide) hd) (by decide)) ⟨Nat.zero_le _, Nat.zero_le _⟩ (Nat.le_of_ble_eq_true rfl) rfl ?_
    refine g_aload_n 18 (i := 0) dM_effect_17 rfl rfl rfl ?_
    refine g_iload_n 19 (i := 1) dM_effect_18 rfl rfl rfl ?_
    refine g_iconst 20 (0 : Int32) dM_effect_19 rfl (by decide) ?_
    refine g_iload_n 21 (i := 2) dM_effect_20 rfl rfl rfl ?_
    obtain ⟨t5, e5, h⟩ := x_bind h
    refine g_cV 24 (some (.long t5)) w [.int v1, .int (0 : Int32), .int v2] [.long t4] dM_effect_21 rfl (fun _ hK2 => mM_ofOne (d - 1) (by omega) e5 hK2) (x_ob_some e1) kM_181 (x_rm (Nat.le_trans (by decide) hd) (by decide)) ⟨Nat.zero_le _, Nat.zero_le _⟩ (Nat.le_of_ble_eq_true rfl) rfl ?_
    refine g_lsub 25 dM_effect_24 rfl ?_
    refine g_l2i 26 dM_effect_25 rfl ?_
    refine g_goto 31 dM_effect_26 (by decide) ?_
    obtain rfl := Option.some.inj h
    exact g_iret rfl dM_effect_31 hK
/-! ActSurgeryModel.swayedDraws(III)J: level P -/
theorem dM_swayedDraws_0 : decode cM_swayedDraws 0 = .ok (.aload_n 0, 1) := by decide +kernel
theorem dM_swayedDraws_1 : decode cM_swayedDraws 1 = .ok (.iload_n 1, 1) := by decide +kernel
theorem dM_swayedDraws_2 : decode cM_swayedDraws 2 = .ok (.iconst 1, 1) := by decide +kernel
theorem dM_swayedDraws_3 : decode cM_swayedDraws 3 = .ok (.iload_n 3, 1) := by decide +kernel
theorem dM_swayedDraws_4 : decode cM_swayedDraws 4 = .ok (.ishl, 1) := by decide +kernel
theorem dM_swayedDraws_5 : decode cM_swayedDraws 5 = .ok (.iconst 1, 1) := by decide +kernel
theorem dM_swayedDraws_6 : decode cM_swayedDraws 6 = .ok (.iload_n 3, 1) := by decide +kernel
theorem dM_swayedDraws_7 : decode cM_swayedDraws 7 = .ok (.ishl, 1) := by decide +kernel
theorem dM_swayedDraws_8 : decode cM_swayedDraws 8 = .ok (.iload_n 2, 1) := by decide +kernel
theorem dM_swayedDraws_9 : decode cM_swayedDraws 9 = .ok (.iconst 1, 1) := by decide +kernel
theorem dM_swayedDraws_10 : decode cM_swayedDraws 10 = .ok (.iload_n 3, 1) := by decide +kernel
theorem dM_swayedDraws_11 : decode cM_swayedDraws 11 = .ok (.ishl, 1) := by decide +kernel
theorem dM_swayedDraws_12 : decode cM_swayedDraws 12 = .ok (.iconst 0, 1) := by decide +kernel
theorem dM_swayedDraws_13 : decode cM_swayedDraws 13 = .ok (.invokevirtual 177, 3) := by decide +kernel
theorem dM_swayedDraws_16 : decode cM_swayedDraws 16 = .ok (.lreturn, 1) := by decide +kernel
def fM_swayedDraws (w : x_W) (v0 : Nat) (v1 : Int32) (v2 : Int32) (v3 : Int32) : Option Int64 :=
  (x_ob w v0 5).bind fun _ =>
  (fM_twoDraws w v0 v1 ((1 : Int32) <<< (v3 &&& 31)) ((1 : Int32) <<< (v3 &&& 31)) v2 ((1 : Int32) <<< (v3 &&& 31)) (0 : Int32)).bind fun t2 =>
  some t2
set_option maxHeartbeats 4000000 in
set_option maxRecDepth 100000 in
theorem mM_swayedDraws (d : Nat) (hd : 3 ≤ d) {K : Option Value → x_W → Prop} {w : x_W} {v0 : Nat} {v1 : Int32} {v2 : Int32} {v3 : Int32} {r : Int64} (h : fM_swayedDraws w v0 v1 v2 v3 = some r) (hK : K (some (.long r)) w) : x_M yM_swayedDraws cM_swayedDraws 4 (some .long) d 0 0 [.ref v0, .int v1, .int v2, .int v3] w K := by
  refine x_M.of [some (.ref v0), some (.int v1), some (.int v2), some (.int v3)] (by decide) rfl (Nat.le_of_ble_eq_true rfl) ?_
  unfold fM_swayedDraws at h
  refine g_aload_n 1 (i := 0) dM_swayedDraws_0 rfl rfl rfl ?_
  refine g_iload_n 2 (i := 1) dM_swayedDraws_1 rfl rfl rfl ?_
  refine g_iconst 3 (1 : Int32) dM_swayedDraws_2 rfl (by decide) ?_
  refine g_iload_n 4 (i := 3) dM_swayedDraws_3 rfl rfl rfl ?_
  refine g_ishl 5 dM_swayedDraws_4 rfl ?_
  refine g_iconst 6 (1 : Int32) dM_swayedDraws_5 rfl (by decide) ?_
  refine g_iload_n 7 (i := 3) dM_swayedDraws_6 rfl rfl rfl ?_
  refine g_ishl 8 dM_swayedDraws_7 rfl ?_
  refine g_iload_n 9 (i := 2) dM_swayedDraws_8 rfl rfl rfl ?_
  refine g_iconst 10 (1 : Int32) dM_swayedDraws_9 rfl (by decide) ?_
  refine g_iload_n 11 (i := 3) dM_swayedDraws_10 rfl rfl rfl ?_
  refine g_ishl 12 dM_swayedDraws_11 rfl ?_
  refine g_iconst 13 (0 : Int32) dM_swayedDraws_12 rfl (by decide) ?_
  obtain ⟨_, e1, h⟩ := x_bind h
  obtain ⟨t2, e2, h⟩ := x_bind h
  refine g_cV 16 (some (.long t2)) w [.int v1, .int ((1 : Int32) <<< (v3 &&& 31)), .int ((1 : Int32) <<< (v3 &&& 31)), .int v2, .int ((1 : Int32) <<< (v3 &&& 31)), .int (0 : Int32)] [] dM_swayedDraws_13 rfl (fun _ hK2 => mM_twoDraws (d - 1) (by omega) e2 hK2) (x_ob_some e1) kM_177 (x_rm (Nat.le_trans (by decide) hd) (by decide)) ⟨Nat.zero_le _, Nat.zero_le _⟩ (Nat.le_of_ble_eq_true rfl) rfl ?_
  obtain rfl := Option.some.inj h
  exact g_lret rfl dM_swayedDraws_16 hK
/-! ActSurgeryModel.swayed(II)I: level P -/
theorem dM_swayed_0 : decode cM_swayed 0 = .ok (.aload_n 0, 1) := by decide +kernel
theorem dM_swayed_1 : decode cM_swayed 1 = .ok (.iload_n 1, 1) := by decide +kernel
theorem dM_swayed_2 : decode cM_swayed 2 = .ok (.iload_n 2, 1) := by decide +kernel
theorem dM_swayed_3 : decode cM_swayed 3 = .ok (.iconst 0, 1) := by decide +kernel
theorem dM_swayed_4 : decode cM_swayed 4 = .ok (.invokevirtual 90, 3) := by decide +kernel
theorem dM_swayed_7 : decode cM_swayed 7 = .ok (.ifCond .ne 6, 3) := by decide +kernel
theorem dM_swayed_10 : decode cM_swayed 10 = .ok (.bipush (-2), 2) := by decide +kernel
theorem dM_swayed_12 : decode cM_swayed 12 = .ok (.ireturn, 1) := by decide +kernel
theorem dM_swayed_13 : decode cM_swayed 13 = .ok (.lconst 0, 1) := by decide +kernel
theorem dM_swayed_14 : decode cM_swayed 14 = .ok (.lstore_n 3, 1) := by decide +kernel
theorem dM_swayed_15 : decode cM_swayed 15 = .ok (.iconst 0, 1) := by decide +kernel
theorem dM_swayed_16 : decode cM_swayed 16 = .ok (.istore 5, 2) := by decide +kernel
theorem dM_swayed_18 : decode cM_swayed 18 = .ok (.iload 5, 2) := by decide +kernel
theorem dM_swayed_20 : decode cM_swayed 20 = .ok (.aload_n 0, 1) := by decide +kernel
theorem dM_swayed_21 : decode cM_swayed 21 = .ok (.invokevirtual 52, 3) := by decide +kernel
theorem dM_swayed_24 : decode cM_swayed 24 = .ok (.if_icmp .gt 79, 3) := by decide +kernel
theorem dM_swayed_27 : decode cM_swayed 27 = .ok (.iconst 0, 1) := by decide +kernel
theorem dM_swayed_28 : decode cM_swayed 28 = .ok (.istore 6, 2) := by decide +kernel
theorem dM_swayed_30 : decode cM_swayed 30 = .ok (.iload 6, 2) := by decide +kernel
theorem dM_swayed_32 : decode cM_swayed 32 = .ok (.aload_n 0, 1) := by decide +kernel
theorem dM_swayed_33 : decode cM_swayed 33 = .ok (.invokevirtual 52, 3) := by decide +kernel
theorem dM_swayed_36 : decode cM_swayed 36 = .ok (.if_icmp .gt 61, 3) := by decide +kernel
theorem dM_swayed_39 : decode cM_swayed 39 = .ok (.iload 5, 2) := by decide +kernel
theorem dM_swayed_41 : decode cM_swayed 41 = .ok (.iload_n 2, 1) := by decide +kernel
theorem dM_swayed_42 : decode cM_swayed 42 = .ok (.invokestatic 62, 3) := by decide +kernel
theorem dM_swayed_45 : decode cM_swayed 45 = .ok (.ifCond .eq 44, 3) := by decide +kernel
theorem dM_swayed_48 : decode cM_swayed 48 = .ok (.iload 6, 2) := by decide +kernel
theorem dM_swayed_50 : decode cM_swayed 50 = .ok (.iload_n 2, 1) := by decide +kernel
theorem dM_swayed_51 : decode cM_swayed 51 = .ok (.invokestatic 62, 3) := by decide +kernel
theorem dM_swayed_54 : decode cM_swayed 54 = .ok (.ifCond .ne 35, 3) := by decide +kernel
theorem dM_swayed_57 : decode cM_swayed 57 = .ok (.iload 5, 2) := by decide +kernel
theorem dM_swayed_59 : decode cM_swayed 59 = .ok (.iload_n 1, 1) := by decide +kernel
theorem dM_swayed_60 : decode cM_swayed 60 = .ok (.invokestatic 62, 3) := by decide +kernel
theorem dM_swayed_63 : decode cM_swayed 63 = .ok (.ifCond .eq 26, 3) := by decide +kernel
theorem dM_swayed_66 : decode cM_swayed 66 = .ok (.iload 6, 2) := by decide +kernel
theorem dM_swayed_68 : decode cM_swayed 68 = .ok (.iload_n 1, 1) := by decide +kernel
theorem dM_swayed_69 : decode cM_swayed 69 = .ok (.invokestatic 62, 3) := by decide +kernel
theorem dM_swayed_72 : decode cM_swayed 72 = .ok (.ifCond .ne 17, 3) := by decide +kernel
theorem dM_swayed_75 : decode cM_swayed 75 = .ok (.lload_n 3, 1) := by decide +kernel
theorem dM_swayed_76 : decode cM_swayed 76 = .ok (.aload_n 0, 1) := by decide +kernel
theorem dM_swayed_77 : decode cM_swayed 77 = .ok (.iload 5, 2) := by decide +kernel
theorem dM_swayed_79 : decode cM_swayed 79 = .ok (.iload 6, 2) := by decide +kernel
theorem dM_swayed_81 : decode cM_swayed 81 = .ok (.iload_n 1, 1) := by decide +kernel
theorem dM_swayed_82 : decode cM_swayed 82 = .ok (.invokevirtual 185, 3) := by decide +kernel
theorem dM_swayed_85 : decode cM_swayed 85 = .ok (.ladd, 1) := by decide +kernel
theorem dM_swayed_86 : decode cM_swayed 86 = .ok (.goto 4, 3) := by decide +kernel
theorem dM_swayed_89 : decode cM_swayed 89 = .ok (.lload_n 3, 1) := by decide +kernel
theorem dM_swayed_90 : decode cM_swayed 90 = .ok (.lstore_n 3, 1) := by decide +kernel
theorem dM_swayed_91 : decode cM_swayed 91 = .ok (.iinc 6 1, 3) := by decide +kernel
theorem dM_swayed_94 : decode cM_swayed 94 = .ok (.goto (-64), 3) := by decide +kernel
theorem dM_swayed_97 : decode cM_swayed 97 = .ok (.iinc 5 1, 3) := by decide +kernel
theorem dM_swayed_100 : decode cM_swayed 100 = .ok (.goto (-82), 3) := by decide +kernel
theorem dM_swayed_103 : decode cM_swayed 103 = .ok (.lload_n 3, 1) := by decide +kernel
theorem dM_swayed_104 : decode cM_swayed 104 = .ok (.l2i, 1) := by decide +kernel
theorem dM_swayed_105 : decode cM_swayed 105 = .ok (.ireturn, 1) := by decide +kernel
theorem tw_4_7 : (Jvm.Cond.instanceMethod ({ cls := "ActSurgeryModel", name := "swayedDraws", desc := "(III)J" } : Jvm.MethodName)) ∈ x_GT := x_t4 7 rfl rfl
theorem tws_61 : (Jvm.Cond.selects "ActSurgeryModel" ({ cls := "ActSurgeryModel", name := "swayedDraws", desc := "(III)J" } : Jvm.MethodName) ({ cls := "ActSurgeryModel", name := "swayedDraws", desc := "(III)J" } : Jvm.MethodName)) ∈ x_GT := x_ts 61 rfl rfl
theorem tw_4_8 : (Jvm.Cond.code ({ cls := "ActSurgeryModel", name := "swayedDraws", desc := "(III)J" } : Jvm.MethodName) prog_7_method_59_code (4 : Nat) (Option.some Jvm.ClassFile.FieldType.long)) ∈ x_GT := x_t4 8 rfl rfl
theorem tw_4_5 : (Jvm.Cond.methodLink "ActSurgeryModel" (185 : Nat) ({ cls := "ActSurgeryModel", name := "swayedDraws", desc := "(III)J" } : Jvm.MethodName)) ∈ x_GT := x_t4 5 rfl rfl
theorem kM_185 : x_kV "ActSurgeryModel" 185 yM_swayedDraws cM_swayedDraws 4 (some .long) 3 5 := ⟨tw_4_7, tws_61, tw_4_8, tw_1_6, tw_4_5, (by decide +kernel), rfl⟩
def fM_swayed_30 (w : x_W) (k18 : Nat → Int32 → Int32 → Int64 → Int32 → Option Int32) : Nat → Nat → Int32 → Int32 → Int64 → Int32 → Int32 → Option Int32
  | 0, _, _, _, _, _, _ => none
  | n + 1, v0, v1, v2, v3, v5, v6 =>
    (x_ob w v0 5).bind fun _ =>
    (fM_all w v0).bind fun t2 =>
    if t2 < v6 then
      k18 v0 v1 v2 v3 (v5 + (1 : Int32))
    else
      if (fM_has v5 v2) = (0 : Int32) then
        fM_swayed_30 w k18 n v0 v1 v2 v3 v5 (v6 + (1 : Int32))
      else
        if (fM_has v6 v2) = (0 : Int32) then
          if (fM_has v5 v1) = (0 : Int32) then
            fM_swayed_30 w k18 n v0 v1 v2 v3 v5 (v6 + (1 : Int32))
          else
            if (fM_has v6 v1) = (0 : Int32) then
              (fM_swayedDraws w v0 v5 v6 v1).bind fun t8 =>
              fM_swayed_30 w k18 n v0 v1 v2 (v3 + t8) v5 (v6 + (1 : Int32))
            else
              fM_swayed_30 w k18 n v0 v1 v2 v3 v5 (v6 + (1 : Int32))
        else
          fM_swayed_30 w k18 n v0 v1 v2 v3 v5 (v6 + (1 : Int32))
def fM_swayed_18 (w : x_W) : Nat → Nat → Int32 → Int32 → Int64 → Int32 → Option Int32
  | 0, _, _, _, _, _ => none
  | n + 1, v0, v1, v2, v3, v5 =>
    (x_ob w v0 5).bind fun _ =>
    (fM_all w v0).bind fun t2 =>
    if t2 < v5 then
      some v3.toInt32
    else
      fM_swayed_30 w (fM_swayed_18 w n) x_F v0 v1 v2 v3 v5 (0 : Int32)
def fM_swayed (w : x_W) (v0 : Nat) (v1 : Int32) (v2 : Int32) : Option Int32 :=
  (x_ob w v0 5).bind fun _ =>
  (fM_isPair w v0 v1 v2 (0 : Int32)).bind fun t2 =>
  if t2 = (0 : Int32) then
    some (-2 : Int32)
  else
    fM_swayed_18 w x_F v0 v1 v2 (0 : Int64) (0 : Int32)
set_option maxHeartbeats 4000000 in
set_option maxRecDepth 100000 in
theorem lM_swayed_30 (d : Nat) (hd : 5 ≤ d) {K : Option Value → x_W → Prop} {r : Int32} {w : x_W} (hK : K (some (.int r)) w) {k18 : Nat → Int32 → Int32 → Int64 → Int32 → Option Int32} (hk18 : ∀ (v0 : Nat) (v1 : Int32) (v2 : Int32) (v3 : Int64) (v5 : Int32), k18 v0 v1 v2 v3 v5 = some r → x_G none yM_swayed cM_swayed 7 (some .int) (x_room d 0 0) (x_QM K 0 0) 18 [some (.ref v0), some (.int v1), some (.int v2), some (.long v3), none, some (.int v5), none] [] w 0 0) : ∀ (n : Nat) (v0 : Nat) (v1 : Int32) (v2 : Int32) (v3 : Int64) (v5 : Int32) (v6 : Int32), fM_swayed_30 w k18 n v0 v1 v2 v3 v5 v6 = some r → x_G none yM_swayed cM_swayed 7 (some .int) (x_room d 0 0) (x_QM K 0 0) 30 [some (.ref v0), some (.int v1), some (.int v2), some (.long v3), none, some (.int v5), some (.int v6)] [] w 0 0 := by
  intro n
  induction n with
  | zero => intro v0 v1 v2 v3 v5 v6 h; rw [fM_swayed_30] at h; cases h
  | succ n ih =>
    intro v0 v1 v2 v3 v5 v6 h
    rw [fM_swayed_30] at h
    refine g_iload 32 dM_swayed_30 rfl rfl ?_
    refine g_aload_n 33 (i := 0) dM_swayed_32 rfl rfl rfl ?_
    obtain ⟨_, e1, h⟩ := x_bind h
    obtain ⟨t2, e2, h⟩ := x_bind h
    refine g_cV 36 (some (.int t2)) w [] [.int v6] dM_swayed_33 rfl (fun _ hK2 => mM_all (d - 1) (by omega) e2 hK2) (x_ob_some e1) kM_52 (x_rm (Nat.le_trans (by decide) hd) (by decide)) ⟨Nat.zero_le _, Nat.zero_le _⟩ (Nat.le_of_ble_eq_true rfl) rfl ?_
    by_cases c3 : t2 < v6
    · rw [if_pos c3] at h
      refine g_icmp_gt_t 97 dM_swayed_36 (by decide) c3 ?_
      refine g_iinc 100 [some (.ref v0), some (.int v1), some (.int v2), some (.long v3), none, some (.int (v5 + (1 : Int32))), some (.int v6)] dM_swayed_97 rfl rfl (x_inc (1 : Int32) (by decide)) rfl (by decide) ?_
      refine g_goto 18 dM_swayed_100 (by decide) ?_
      refine g_less [some (.ref v0), some (.int v1), some (.int v2), some (.long v3), none, some (.int (v5 + (1 : Int32))), none] ⟨rfl, rfl, rfl, rfl, rfl, trivial⟩ ?_
      exact hk18 _ _ _ _ _ h
    · rw [if_neg c3] at h
      refine g_icmp_gt_f 39 97 dM_swayed_36 (by decide) rfl c3 ?_
      refine g_iload 41 dM_swayed_39 rfl rfl ?_
      refine g_iload_n 42 (i := 2) dM_swayed_41 rfl rfl rfl ?_
      refine g_cS 45 (some (.int (fM_has v5 v2))) w [.int v5, .int v2] [] dM_swayed_42 rfl (fun _ hK2 => mM_has (d - 1) (by omega) rfl hK2) kM_62 (x_rm (Nat.le_trans (by decide) hd) (by decide)) ⟨Nat.zero_le _, Nat.zero_le _⟩ (Nat.le_of_ble_eq_true rfl) rfl ?_
      by_cases c4 : (fM_has v5 v2) = (0 : Int32)
      · rw [if_pos c4] at h
        refine g_if_eq_t 89 dM_swayed_45 (by decide) c4 ?_
        refine g_lload_n 90 (i := 3) dM_swayed_89 rfl rfl rfl ?_
        refine g_lstore_n 91 (i := 3) [some (.ref v0), some (.int v1), some (.int v2), some (.long v3), none, some (.int v5), some (.int v6)] dM_swayed_90 rfl rfl rfl (by decide) ?_
        refine g_iinc 94 [some (.ref v0), some (.int v1), some (.int v2), some (.long v3), none, some (.int v5), some (.int (v6 + (1 : Int32)))] dM_swayed_91 rfl rfl (x_inc (1 : Int32) (by decide)) rfl (by decide) ?_
        refine g_goto 30 dM_swayed_94 (by decide) ?_
        exact ih _ _ _ _ _ _ h
      · rw [if_neg c4] at h
        refine g_if_eq_f 48 89 dM_swayed_45 (by decide) rfl c4 ?_
        refine g_iload 50 dM_swayed_48 rfl rfl ?_
        refine g_iload_n 51 (i := 2) dM_swayed_50 rfl rfl rfl ?_
        refine g_cS 54 (some (.int (fM_has v6 v2))) w [.int v6, .int v2] [] dM_swayed_51 rfl (fun _ hK2 => mM_has (d - 1) (by omega) rfl hK2) kM_62 (x_rm (Nat.le_trans (by decide) hd) (by decide)) ⟨Nat.zero_le _, Nat.zero_le _⟩ (Nat.le_of_ble_eq_true rfl) rfl ?_
        by_cases c5 : (fM_has v6 v2) = (0 : Int32)
        · rw [if_pos c5] at h
          refine g_if_ne_f 57 89 dM_swayed_54 (by decide) rfl c5 ?_
          refine g_iload 59 dM_swayed_57 rfl rfl ?_
          refine g_iload_n 60 (i := 1) dM_swayed_59 rfl rfl rfl ?_
          refine g_cS 63 (some (.int (fM_has v5 v1))) w [.int v5, .int v1] [] dM_swayed_60 rfl (fun _ hK2 => mM_has (d - 1) (by omega) rfl hK2) kM_62 (x_rm (Nat.le_trans (by decide) hd) (by decide)) ⟨Nat.zero_le _, Nat.zero_le _⟩ (Nat.le_of_ble_eq_true rfl) rfl ?_
          by_cases c6 : (fM_has v5 v1) = (0 : Int32)
          · rw [if_pos c6] at h
            refine g_if_eq_t 89 dM_swayed_63 (by decide) c6 ?_
            refine g_lload_n 90 (i := 3) dM_swayed_89 rfl rfl rfl ?_
            refine g_lstore_n 91 (i := 3) [some (.ref v0), some (.int v1), some (.int v2), some (.long v3), none, some (.int v5), some (.int v6)] dM_swayed_90 rfl rfl rfl (by decide) ?_
            refine g_iinc 94 [some (.ref v0), some (.int v1), some (.int v2), some (.long v3), none, some (.int v5), some (.int (v6 + (1 : Int32)))] dM_swayed_91 rfl rfl (x_inc (1 : Int32) (by decide)) rfl (by decide) ?_
            refine g_goto 30 dM_swayed_94 (by decide) ?_
            exact ih _ _ _ _ _ _ h
          · rw [if_neg c6] at h
            refine g_if_eq_f 66 89 dM_swayed_63 (by decide) rfl c6 ?_
            refine g_iload 68 dM_swayed_66 rfl rfl ?_
            refine g_iload_n 69 (i := 1) dM_swayed_68 rfl rfl rfl ?_
            refine g_cS 72 (some (.int (fM_has v6 v1))) w [.int v6, .int v1] [] dM_swayed_69 rfl (fun _ hK2 => mM_has (d - 1) (by omega) rfl hK2) kM_62 (x_rm (Nat.le_trans (by decide) hd) (by decide)) ⟨Nat.zero_le _, Nat.zero_le _⟩ (Nat.le_of_ble_eq_true rfl) rfl ?_
            by_cases c7 : (fM_has v6 v1) = (0 : Int32)
            · rw [if_pos c7] at h
              refine g_if_ne_f 75 89 dM_swayed_72 (by decide) rfl c7 ?_
              refine g_lload_n 76 (i := 3) dM_swayed_75 rfl rfl rfl ?_
              refine g_aload_n 77 (i := 0) dM_swayed_76 rfl rfl rfl ?_
              refine g_iload 79 dM_swayed_77 rfl rfl ?_
              refine g_iload 81 dM_swayed_79 rfl rfl ?_
              refine g_iload_n 82 (i := 1) dM_swayed_81 rfl rfl rfl ?_
              obtain ⟨t8, e8, h⟩ := x_bind h
              refine g_cV 85 (some (.long t8)) w [.int v5, .int v6, .int v1] [.long v3] dM_swayed_82 rfl (fun _ hK2 => mM_swayedDraws (d - 1) (by omega) e8 hK2) (x_ob_some e1) kM_185 (x_rm (Nat.le_trans (by decide) hd) (by decide)) ⟨Nat.zero_le _, Nat.zero_le _⟩ (Nat.le_of_ble_eq_true rfl) rfl ?_
              refine g_ladd 86 dM_swayed_85 rfl ?_
              refine g_goto 90 dM_swayed_86 (by decide) ?_
              refine g_lstore_n 91 (i := 3) [some (.ref v0), some (.int v1), some (.int v2), some (.long (v3 + t8)), none, some (.int v5), some (.int v6)] dM_swayed_90 rfl rfl rfl (by decide) ?_
              refine g_iinc 94 [some (.ref v0), some (.int v1), some (.int v2), some (.long (v3 + t8)), none, some (.int v5), some (.int (v6 + (1 : Int32)))] dM_swayed_91 rfl rfl (x_inc (1 : Int32) (by decide)) rfl (by decide) ?_
              refine g_goto 30 dM_swayed_94 (by decide) ?_
              exact ih _ _ _ _ _ _ h
            · rw [if_neg c7] at h
              refine g_if_ne_t 89 dM_swayed_72 (by decide) c7 ?_
              refine g_lload_n 90 (i := 3) dM_swayed_89 rfl rfl rfl ?_
              refine g_lstore_n 91 (i := 3) [some (.ref v0), some (.int v1), some (.int v2), some (.long v3), none, some (.int v5), some (.int v6)] dM_swayed_90 rfl rfl rfl (by decide) ?_
              refine g_iinc 94 [some (.ref v0), some (.int v1), some (.int v2), some (.long v3), none, some (.int v5), some (.int (v6 + (1 : Int32)))] dM_swayed_91 rfl rfl (x_inc (1 : Int32) (by decide)) rfl (by decide) ?_
              refine g_goto 30 dM_swayed_94 (by decide) ?_
              exact ih _ _ _ _ _ _ h
        · rw [if_neg c5] at h
          refine g_if_ne_t 89 dM_swayed_54 (by decide) c5 ?_
          refine g_lload_n 90 (i := 3) dM_swayed_89 rfl rfl rfl ?_
          refine g_lstore_n 91 (i := 3) [some (.ref v0), some (.int v1), some (.int v2), some (.long v3), none, some (.int v5), some (.int v6)] dM_swayed_90 rfl rfl rfl (by decide) ?_
          refine g_iinc 94 [some (.ref v0), some (.int v1), some (.int v2), some (.long v3), none, some (.int v5), some (.int (v6 + (1 : Int32)))] dM_swayed_91 rfl rfl (x_inc (1 : Int32) (by decide)) rfl (by decide) ?_
          refine g_goto 30 dM_swayed_94 (by decide) ?_
          exact ih _ _ _ _ _ _ h
set_option maxHeartbeats 4000000 in
set_option maxRecDepth 100000 in
theorem lM_swayed_18 (d : Nat) (hd : 5 ≤ d) {K : Option Value → x_W → Prop} {r : Int32} {w : x_W} (hK : K (some (.int r)) w) : ∀ (n : Nat) (v0 : Nat) (v1 : Int32) (v2 : Int32) (v3 : Int64) (v5 : Int32), fM_swayed_18 w n v0 v1 v2 v3 v5 = some r → x_G none yM_swayed cM_swayed 7 (some .int) (x_room d 0 0) (x_QM K 0 0) 18 [some (.ref v0), some (.int v1), some (.int v2), some (.long v3), none, some (.int v5), none] [] w 0 0 := by
  intro n
  induction n with
  | zero => intro v0 v1 v2 v3 v5 h; rw [fM_swayed_18] at h; cases h
  | succ n ih =>
    intro v0 v1 v2 v3 v5 h
    rw [fM_swayed_18] at h
    refine g_iload 20 dM_swayed_18 rfl rfl ?_
    refine g_aload_n 21 (i := 0) dM_swayed_20 rfl rfl rfl ?_
    obtain ⟨_, e1, h⟩ := x_bind h
    obtain ⟨t2, e2, h⟩ := x_bind h
    refine g_cV 24 (some (.int t2)) w [] [.int v5] dM_swayed_21 rfl (fun _ hK2 => mM_all (d - 1) (by omega) e2 hK2) (x_ob_some e1) kM_52 (x_rm (Nat.le_trans (by decide) hd) (by decide)) ⟨Nat.zero_le _, Nat.zero_le _⟩ (Nat.le_of_ble_eq_true rfl) rfl ?_
    by_cases c3 : t2 < v5
    · rw [if_pos c3] at h
      refine g_icmp_gt_t 103 dM_swayed_24 (by decide) c3 ?_
      refine g_lload_n 104 (i := 3) dM_swayed_103 rfl rfl rfl ?_
      refine g_l2i 105 dM_swayed_104 rfl ?_
      obtain rfl := Option.some.inj h
      exact g_iret rfl dM_swayed_105 hK
    · rw [if_neg c3] at h
      refine g_icmp_gt_f 27 103 dM_swayed_24 (by decide) rfl c3 ?_
      refine g_iconst 28 (0 : Int32) dM_swayed_27 rfl (by decide) ?_
      refine g_istore 30 [some (.ref v0), some (.int v1), some (.int v2), some (.long v3), none, some (.int v5), some (.int (0 : Int32))] dM_swayed_28 rfl rfl (by decide) ?_
      exact lM_swayed_30 d hd hK (fun _ _ _ _ _ hz => ih _ _ _ _ _ hz) x_F _ _ _ _ _ _ h
set_option maxHeartbeats 4000000 in
set_option maxRecDepth 100000 in
theorem mM_swayed (d : Nat) (hd : 5 ≤ d) {K : Option Value → x_W → Prop} {w : x_W} {v0 : Nat} {v1 : Int32} {v2 : Int32} {r : Int32} (h : fM_swayed w v0 v1 v2 = some r) (hK : K (some (.int r)) w) : x_M yM_swayed cM_swayed 7 (some .int) d 0 0 [.ref v0, .int v1, .int v2] w K := by
  refine x_M.of [some (.ref v0), some (.int v1), some (.int v2), none, none, none, none] (by decide) rfl (Nat.le_of_ble_eq_true rfl) ?_
  unfold fM_swayed at h
  refine g_aload_n 1 (i := 0) dM_swayed_0 rfl rfl rfl ?_
  refine g_iload_n 2 (i := 1) dM_swayed_1 rfl rfl rfl ?_
  refine g_iload_n 3 (i := 2) dM_swayed_2 rfl rfl rfl ?_
  refine g_iconst 4 (0 : Int32) dM_swayed_3 rfl (by decide) ?_
  obtain ⟨_, e1, h⟩ := x_bind h
  obtain ⟨t2, e2, h⟩ := x_bind h
  refine g_cV 7 (some (.int t2)) w [.int v1, .int v2, .int (0 : Int32)] [] dM_swayed_4 rfl (fun _ hK2 => mM_isPair (d - 1) (by omega) e2 hK2) (x_ob_some e1) kM_90 (x_rm (Nat.le_trans (by decide) hd) (by decide)) ⟨Nat.zero_le _, Nat.zero_le _⟩ (Nat.le_of_ble_eq_true rfl) rfl ?_
  by_cases c3 : t2 = (0 : Int32)
  · rw [if_pos c3] at h
    refine g_if_ne_f 10 13 dM_swayed_7 (by decide) rfl c3 ?_
    refine g_bipush 12 (-2 : Int32) dM_swayed_10 rfl (by decide) ?_
    obtain rfl := Option.some.inj h
    exact g_iret rfl dM_swayed_12 hK
  · rw [if_neg c3] at h
    refine g_if_ne_t 13 dM_swayed_7 (by decide) c3 ?_
    refine g_lconst 14 (0 : Int64) dM_swayed_13 rfl (by decide) ?_
    refine g_lstore_n 15 (i := 3) [some (.ref v0), some (.int v1), some (.int v2), some (.long (0 : Int64)), none, none, none] dM_swayed_14 rfl rfl rfl (by decide) ?_
    refine g_iconst 16 (0 : Int32) dM_swayed_15 rfl (by decide) ?_
    refine g_istore 18 [some (.ref v0), some (.int v1), some (.int v2), some (.long (0 : Int64)), none, some (.int (0 : Int32)), none] dM_swayed_16 rfl rfl (by decide) ?_
    exact lM_swayed_18 d hd hK x_F _ _ _ _ _ h
/-! ActSurgeryModel.swap()I: level X -/
theorem dM_swap_0 : decode cM_swap 0 = .ok (.aload_n 0, 1) := by decide +kernel
theorem dM_swap_1 : decode cM_swap 1 = .ok (.getfield 7, 3) := by decide +kernel
theorem dM_swap_4 : decode cM_swap 4 = .ok (.iconst 0, 1) := by decide +kernel
theorem dM_swap_5 : decode cM_swap 5 = .ok (.iaload, 1) := by decide +kernel
theorem dM_swap_6 : decode cM_swap 6 = .ok (.istore_n 1, 1) := by decide +kernel
theorem dM_swap_7 : decode cM_swap 7 = .ok (.aload_n 0, 1) := by decide +kernel
theorem dM_swap_8 : decode cM_swap 8 = .ok (.getfield 7, 3) := by decide +kernel
theorem dM_swap_11 : decode cM_swap 11 = .ok (.iconst 0, 1) := by decide +kernel
theorem dM_swap_12 : decode cM_swap 12 = .ok (.aload_n 0, 1) := by decide +kernel
theorem dM_swap_13 : decode cM_swap 13 = .ok (.getfield 7, 3) := by decide +kernel
theorem dM_swap_16 : decode cM_swap 16 = .ok (.iconst 1, 1) := by decide +kernel
theorem dM_swap_17 : decode cM_swap 17 = .ok (.iaload, 1) := by decide +kernel
theorem dM_swap_18 : decode cM_swap 18 = .ok (.iastore, 1) := by decide +kernel
theorem dM_swap_19 : decode cM_swap 19 = .ok (.aload_n 0, 1) := by decide +kernel
theorem dM_swap_20 : decode cM_swap 20 = .ok (.getfield 7, 3) := by decide +kernel
theorem dM_swap_23 : decode cM_swap 23 = .ok (.iconst 1, 1) := by decide +kernel
theorem dM_swap_24 : decode cM_swap 24 = .ok (.iload_n 1, 1) := by decide +kernel
theorem dM_swap_25 : decode cM_swap 25 = .ok (.iastore, 1) := by decide +kernel
theorem dM_swap_26 : decode cM_swap 26 = .ok (.aload_n 0, 1) := by decide +kernel
theorem dM_swap_27 : decode cM_swap 27 = .ok (.getfield 19, 3) := by decide +kernel
theorem dM_swap_30 : decode cM_swap 30 = .ok (.iconst 0, 1) := by decide +kernel
theorem dM_swap_31 : decode cM_swap 31 = .ok (.iaload, 1) := by decide +kernel
theorem dM_swap_32 : decode cM_swap 32 = .ok (.istore_n 2, 1) := by decide +kernel
theorem dM_swap_33 : decode cM_swap 33 = .ok (.aload_n 0, 1) := by decide +kernel
theorem dM_swap_34 : decode cM_swap 34 = .ok (.getfield 19, 3) := by decide +kernel
theorem dM_swap_37 : decode cM_swap 37 = .ok (.iconst 0, 1) := by decide +kernel
theorem dM_swap_38 : decode cM_swap 38 = .ok (.aload_n 0, 1) := by decide +kernel
theorem dM_swap_39 : decode cM_swap 39 = .ok (.getfield 19, 3) := by decide +kernel
theorem dM_swap_42 : decode cM_swap 42 = .ok (.iconst 1, 1) := by decide +kernel
theorem dM_swap_43 : decode cM_swap 43 = .ok (.iaload, 1) := by decide +kernel
theorem dM_swap_44 : decode cM_swap 44 = .ok (.iastore, 1) := by decide +kernel
theorem dM_swap_45 : decode cM_swap 45 = .ok (.aload_n 0, 1) := by decide +kernel
theorem dM_swap_46 : decode cM_swap 46 = .ok (.getfield 19, 3) := by decide +kernel
theorem dM_swap_49 : decode cM_swap 49 = .ok (.iconst 1, 1) := by decide +kernel
theorem dM_swap_50 : decode cM_swap 50 = .ok (.iload_n 2, 1) := by decide +kernel
theorem dM_swap_51 : decode cM_swap 51 = .ok (.iastore, 1) := by decide +kernel
theorem dM_swap_52 : decode cM_swap 52 = .ok (.iconst 0, 1) := by decide +kernel
theorem dM_swap_53 : decode cM_swap 53 = .ok (.istore_n 3, 1) := by decide +kernel
theorem dM_swap_54 : decode cM_swap 54 = .ok (.iload_n 3, 1) := by decide +kernel
theorem dM_swap_55 : decode cM_swap 55 = .ok (.bipush 6, 2) := by decide +kernel
theorem dM_swap_57 : decode cM_swap 57 = .ok (.if_icmp .ge 43, 3) := by decide +kernel
theorem dM_swap_60 : decode cM_swap 60 = .ok (.aload_n 0, 1) := by decide +kernel
theorem dM_swap_61 : decode cM_swap 61 = .ok (.getfield 13, 3) := by decide +kernel
theorem dM_swap_64 : decode cM_swap 64 = .ok (.iload_n 3, 1) := by decide +kernel
theorem dM_swap_65 : decode cM_swap 65 = .ok (.iaload, 1) := by decide +kernel
theorem dM_swap_66 : decode cM_swap 66 = .ok (.istore 4, 2) := by decide +kernel
theorem dM_swap_68 : decode cM_swap 68 = .ok (.aload_n 0, 1) := by decide +kernel
theorem dM_swap_69 : decode cM_swap 69 = .ok (.getfield 13, 3) := by decide +kernel
theorem dM_swap_72 : decode cM_swap 72 = .ok (.iload_n 3, 1) := by decide +kernel
theorem dM_swap_73 : decode cM_swap 73 = .ok (.aload_n 0, 1) := by decide +kernel
theorem dM_swap_74 : decode cM_swap 74 = .ok (.getfield 13, 3) := by decide +kernel
theorem dM_swap_77 : decode cM_swap 77 = .ok (.bipush 6, 2) := by decide +kernel
theorem dM_swap_79 : decode cM_swap 79 = .ok (.iload_n 3, 1) := by decide +kernel
theorem dM_swap_80 : decode cM_swap 80 = .ok (.iadd, 1) := by decide +kernel
theorem dM_swap_81 : decode cM_swap 81 = .ok (.iaload, 1) := by decide +kernel
theorem dM_swap_82 : decode cM_swap 82 = .ok (.iastore, 1) := by decide +kernel
theorem dM_swap_83 : decode cM_swap 83 = .ok (.aload_n 0, 1) := by decide +kernel
theorem dM_swap_84 : decode cM_swap 84 = .ok (.getfield 13, 3) := by decide +kernel
theorem dM_swap_87 : decode cM_swap 87 = .ok (.bipush 6, 2) := by decide +kernel
theorem dM_swap_89 : decode cM_swap 89 = .ok (.iload_n 3, 1) := by decide +kernel
theorem dM_swap_90 : decode cM_swap 90 = .ok (.iadd, 1) := by decide +kernel
theorem dM_swap_91 : decode cM_swap 91 = .ok (.iload 4, 2) := by decide +kernel
theorem dM_swap_93 : decode cM_swap 93 = .ok (.iastore, 1) := by decide +kernel
theorem dM_swap_94 : decode cM_swap 94 = .ok (.iinc 3 1, 3) := by decide +kernel
theorem dM_swap_97 : decode cM_swap 97 = .ok (.goto (-43), 3) := by decide +kernel
theorem dM_swap_100 : decode cM_swap 100 = .ok (.iconst 0, 1) := by decide +kernel
theorem dM_swap_101 : decode cM_swap 101 = .ok (.istore_n 3, 1) := by decide +kernel
theorem dM_swap_102 : decode cM_swap 102 = .ok (.iload_n 3, 1) := by decide +kernel
theorem dM_swap_103 : decode cM_swap 103 = .ok (.sipush 384, 3) := by decide +kernel
theorem dM_swap_106 : decode cM_swap 106 = .ok (.if_icmp .ge 45, 3) := by decide +kernel
theorem dM_swap_109 : decode cM_swap 109 = .ok (.aload_n 0, 1) := by decide +kernel
theorem dM_swap_110 : decode cM_swap 110 = .ok (.getfield 16, 3) := by decide +kernel
theorem dM_swap_113 : decode cM_swap 113 = .ok (.iload_n 3, 1) := by decide +kernel
theorem dM_swap_114 : decode cM_swap 114 = .ok (.iaload, 1) := by decide +kernel
theorem dM_swap_115 : decode cM_swap 115 = .ok (.istore 4, 2) := by decide +kernel
theorem dM_swap_117 : decode cM_swap 117 = .ok (.aload_n 0, 1) := by decide +kernel
theorem dM_swap_118 : decode cM_swap 118 = .ok (.getfield 16, 3) := by decide +kernel
theorem dM_swap_121 : decode cM_swap 121 = .ok (.iload_n 3, 1) := by decide +kernel
theorem dM_swap_122 : decode cM_swap 122 = .ok (.aload_n 0, 1) := by decide +kernel
theorem dM_swap_123 : decode cM_swap 123 = .ok (.getfield 16, 3) := by decide +kernel
theorem dM_swap_126 : decode cM_swap 126 = .ok (.sipush 384, 3) := by decide +kernel
theorem dM_swap_129 : decode cM_swap 129 = .ok (.iload_n 3, 1) := by decide +kernel
theorem dM_swap_130 : decode cM_swap 130 = .ok (.iadd, 1) := by decide +kernel
theorem dM_swap_131 : decode cM_swap 131 = .ok (.iaload, 1) := by decide +kernel
theorem dM_swap_132 : decode cM_swap 132 = .ok (.iastore, 1) := by decide +kernel
theorem dM_swap_133 : decode cM_swap 133 = .ok (.aload_n 0, 1) := by decide +kernel
theorem dM_swap_134 : decode cM_swap 134 = .ok (.getfield 16, 3) := by decide +kernel
theorem dM_swap_137 : decode cM_swap 137 = .ok (.sipush 384, 3) := by decide +kernel
theorem dM_swap_140 : decode cM_swap 140 = .ok (.iload_n 3, 1) := by decide +kernel
theorem dM_swap_141 : decode cM_swap 141 = .ok (.iadd, 1) := by decide +kernel
theorem dM_swap_142 : decode cM_swap 142 = .ok (.iload 4, 2) := by decide +kernel
theorem dM_swap_144 : decode cM_swap 144 = .ok (.iastore, 1) := by decide +kernel
theorem dM_swap_145 : decode cM_swap 145 = .ok (.iinc 3 1, 3) := by decide +kernel
theorem dM_swap_148 : decode cM_swap 148 = .ok (.goto (-46), 3) := by decide +kernel
theorem dM_swap_151 : decode cM_swap 151 = .ok (.aload_n 0, 1) := by decide +kernel
theorem dM_swap_152 : decode cM_swap 152 = .ok (.getfield 7, 3) := by decide +kernel
theorem dM_swap_155 : decode cM_swap 155 = .ok (.iconst 0, 1) := by decide +kernel
theorem dM_swap_156 : decode cM_swap 156 = .ok (.iaload, 1) := by decide +kernel
theorem dM_swap_157 : decode cM_swap 157 = .ok (.ireturn, 1) := by decide +kernel
def fM_swap_102  : Nat → x_W → Nat → Int32 → Option (Int32 × x_W)
  | 0, _, _, _ => none
  | n + 1, w, v0, v3 =>
    if (384 : Int32) ≤ v3 then
      (x_fr w v0 5 0).bind fun t2 =>
      (x_ai w t2 (0 : Int32)).bind fun t3 =>
      some (t3, w)
    else
      (x_fr w v0 5 2).bind fun t4 =>
      (x_ai w t4 v3).bind fun t5 =>
      (x_ai w t4 ((384 : Int32) + v3)).bind fun t6 =>
      (x_pa w t4 v3 t6).bind fun w7 =>
      (x_fr w7 v0 5 2).bind fun t8 =>
      (x_pa w7 t8 ((384 : Int32) + v3) t5).bind fun w9 =>
      fM_swap_102 n w9 v0 (v3 + (1 : Int32))
def fM_swap_54  : Nat → x_W → Nat → Int32 → Option (Int32 × x_W)
  | 0, _, _, _ => none
  | n + 1, w, v0, v3 =>
    if (6 : Int32) ≤ v3 then
      fM_swap_102 x_F w v0 (0 : Int32)
    else
      (x_fr w v0 5 1).bind fun t2 =>
      (x_ai w t2 v3).bind fun t3 =>
      (x_ai w t2 ((6 : Int32) + v3)).bind fun t4 =>
      (x_pa w t2 v3 t4).bind fun w5 =>
      (x_fr w5 v0 5 1).bind fun t6 =>
      (x_pa w5 t6 ((6 : Int32) + v3) t3).bind fun w7 =>
      fM_swap_54 n w7 v0 (v3 + (1 : Int32))
def fM_swap  (w : x_W) (v0 : Nat) : Option (Int32 × x_W) :=
  (x_fr w v0 5 0).bind fun t1 =>
  (x_ai w t1 (0 : Int32)).bind fun t2 =>
  (x_ai w t1 (1 : Int32)).bind fun t3 =>
  (x_pa w t1 (0 : Int32) t3).bind fun w4 =>
  (x_fr w4 v0 5 0).bind fun t5 =>
  (x_pa w4 t5 (1 : Int32) t2).bind fun w6 =>
  (x_fr w6 v0 5 3).bind fun t7 =>
  (x_ai w6 t7 (0 : Int32)).bind fun t8 =>
  (x_ai w6 t7 (1 : Int32)).bind fun t9 =>
  (x_pa w6 t7 (0 : Int32) t9).bind fun w10 =>
  (x_fr w10 v0 5 3).bind fun t11 =>
  (x_pa w10 t11 (1 : Int32) t8).bind fun w12 =>
  fM_swap_54 x_F w12 v0 (0 : Int32)
set_option maxHeartbeats 4000000 in
set_option maxRecDepth 100000 in
theorem lM_swap_102 (d : Nat) (hd : 1 ≤ d) {K : Option Value → x_W → Prop} {r : (Int32 × x_W)} (hK : K (some (.int r.1)) r.2) : ∀ (n : Nat) (w : x_W) (v0 : Nat) (v3 : Int32), fM_swap_102 n w v0 v3 = some r → x_G none yM_swap cM_swap 5 (some .int) (x_room d 0 0) (x_QM K 0 0) 102 [some (.ref v0), none, none, some (.int v3), none] [] w 0 0 := by
  intro n
  induction n with
  | zero => intro w v0 v3 h; rw [fM_swap_102] at h; cases h
  | succ n ih =>
    intro w v0 v3 h
    rw [fM_swap_102] at h
    refine g_iload_n 103 (i := 3) dM_swap_102 rfl rfl rfl ?_
    refine g_sipush 106 (384 : Int32) dM_swap_103 rfl (by decide) ?_
    by_cases c1 : (384 : Int32) ≤ v3
    · rw [if_pos c1] at h
      refine g_icmp_ge_t 151 dM_swap_106 (by decide) c1 ?_
      refine g_aload_n 152 (i := 0) dM_swap_151 rfl rfl rfl ?_
      obtain ⟨t2, e2, h⟩ := x_bind h
      refine g_getfR 155 5 0 dM_swap_152 rfl x_in5 tw_2_235 rfl (by decide) e2 ?_
      refine g_iconst 156 (0 : Int32) dM_swap_155 rfl (by decide) ?_
      obtain ⟨t3, e3, h⟩ := x_bind h
      refine g_iald 157 dM_swap_156 rfl e3 ?_
      obtain rfl := Option.some.inj h
      exact g_iret rfl dM_swap_157 hK
    · rw [if_neg c1] at h
      refine g_icmp_ge_f 109 151 dM_swap_106 (by decide) rfl c1 ?_
      refine g_aload_n 110 (i := 0) dM_swap_109 rfl rfl rfl ?_
      obtain ⟨t4, e4, h⟩ := x_bind h
      refine g_getfR 113 5 2 dM_swap_110 rfl x_in5 tw_2_237 rfl (by decide) e4 ?_
      refine g_iload_n 114 (i := 3) dM_swap_113 rfl rfl rfl ?_
      obtain ⟨t5, e5, h⟩ := x_bind h
      refine g_iald 115 dM_swap_114 rfl e5 ?_
      refine g_istore 117 [some (.ref v0), none, none, some (.int v3), some (.int t5)] dM_swap_115 rfl rfl (by decide) ?_
      refine g_aload_n 118 (i := 0) dM_swap_117 rfl rfl rfl ?_
      refine g_getfR 121 5 2 dM_swap_118 rfl x_in5 tw_2_237 rfl (by decide) e4 ?_
      refine g_iload_n 122 (i := 3) dM_swap_121 rfl rfl rfl ?_
      refine g_aload_n 123 (i := 0) dM_swap_122 rfl rfl rfl ?_
      refine g_getfR 126 5 2 dM_swap_123 rfl x_in5 tw_2_237 rfl (by decide) e4 ?_
      refine g_sipush 129 (384 : Int32) dM_swap_126 rfl (by decide) ?_
      refine g_iload_n 130 (i := 3) dM_swap_129 rfl rfl rfl ?_
      refine g_iadd 131 dM_swap_130 rfl ?_
      obtain ⟨t6, e6, h⟩ := x_bind h
      refine g_iald 132 dM_swap_131 rfl e6 ?_
      obtain ⟨w7, e7, h⟩ := x_bind h
      refine g_iast 133 dM_swap_132 rfl e7 ?_
      refine g_aload_n 134 (i := 0) dM_swap_133 rfl rfl rfl ?_
      obtain ⟨t8, e8, h⟩ := x_bind h
      refine g_getfR 137 5 2 dM_swap_134 rfl x_in5 tw_2_237 rfl (by decide) e8 ?_
      refine g_sipush 140 (384 : Int32) dM_swap_137 rfl (by decide) ?_
      refine g_iload_n 141 (i := 3) dM_swap_140 rfl rfl rfl ?_
      refine g_iadd 142 dM_swap_141 rfl ?_
      refine g_iload 144 dM_swap_142 rfl rfl ?_
      obtain ⟨w9, e9, h⟩ := x_bind h
      refine g_iast 145 dM_swap_144 rfl e9 ?_
      refine g_iinc 148 [some (.ref v0), none, none, some (.int (v3 + (1 : Int32))), some (.int t5)] dM_swap_145 rfl rfl (x_inc (1 : Int32) (by decide)) rfl (by decide) ?_
      refine g_goto 102 dM_swap_148 (by decide) ?_
      refine g_less [some (.ref v0), none, none, some (.int (v3 + (1 : Int32))), none] ⟨rfl, rfl, trivial⟩ ?_
      exact ih _ _ _ h
set_option maxHeartbeats 4000000 in
set_option maxRecDepth 100000 in
theorem lM_swap_54 (d : Nat) (hd : 1 ≤ d) {K : Option Value → x_W → Prop} {r : (Int32 × x_W)} (hK : K (some (.int r.1)) r.2) : ∀ (n : Nat) (w : x_W) (v0 : Nat) (v3 : Int32), fM_swap_54 n w v0 v3 = some r → x_G none yM_swap cM_swap 5 (some .int) (x_room d 0 0) (x_QM K 0 0) 54 [some (.ref v0), none, none, some (.int v3), none] [] w 0 0 := by
  intro n
  induction n with
  | zero => intro w v0 v3 h; rw [fM_swap_54] at h; cases h
  | succ n ih =>
    intro w v0 v3 h
    rw [fM_swap_54] at h
    refine g_iload_n 55 (i := 3) dM_swap_54 rfl rfl rfl ?_
    refine g_bipush 57 (6 : Int32) dM_swap_55 rfl (by decide) ?_
    by_cases c1 : (6 : Int32) ≤ v3
    · rw [if_pos c1] at h
      refine g_icmp_ge_t 100 dM_swap_57 (by decide) c1 ?_
      refine g_iconst 101 (0 : Int32) dM_swap_100 rfl (by decide) ?_
      refine g_istore_n 102 (i := 3) [some (.ref v0), none, none, some (.int (0 : Int32)), none] dM_swap_101 rfl rfl rfl (by decide) ?_
      exact lM_swap_102 d hd hK x_F _ _ _ h
    · rw [if_neg c1] at h
      refine g_icmp_ge_f 60 100 dM_swap_57 (by decide) rfl c1 ?_
      refine g_aload_n 61 (i := 0) dM_swap_60 rfl rfl rfl ?_
      obtain ⟨t2, e2, h⟩ := x_bind h
      refine g_getfR 64 5 1 dM_swap_61 rfl x_in5 tw_2_236 rfl (by decide) e2 ?_
      refine g_iload_n 65 (i := 3) dM_swap_64 rfl rfl rfl ?_
      obtain ⟨t3, e3, h⟩ := x_bind h
      refine g_iald 66 dM_swap_65 rfl e3 ?_
      refine g_istore 68 [some (.ref v0), none, none, some (.int v3), some (.int t3)] dM_swap_66 rfl rfl (by decide) ?_
      refine g_aload_n 69 (i := 0) dM_swap_68 rfl rfl rfl ?_
      refine g_getfR 72 5 1 dM_swap_69 rfl x_in5 tw_2_236 rfl (by decide) e2 ?_
      refine g_iload_n 73 (i := 3) dM_swap_72 rfl rfl rfl ?_
      refine g_aload_n 74 (i := 0) dM_swap_73 rfl rfl rfl ?_
      refine g_getfR 77 5 1 dM_swap_74 rfl x_in5 tw_2_236 rfl (by decide) e2 ?_
      refine g_bipush 79 (6 : Int32) dM_swap_77 rfl (by decide) ?_
      refine g_iload_n 80 (i := 3) dM_swap_79 rfl rfl rfl ?_
      refine g_iadd 81 dM_swap_80 rfl ?_
      obtain ⟨t4, e4, h⟩ := x_bind h
      refine g_iald 82 dM_swap_81 rfl e4 ?_
      obtain ⟨w5, e5, h⟩ := x_bind h
      refine g_iast 83 dM_swap_82 rfl e5 ?_
      refine g_aload_n 84 (i := 0) dM_swap_83 rfl rfl rfl ?_
      obtain ⟨t6, e6, h⟩ := x_bind h
      refine g_getfR 87 5 1 dM_swap_84 rfl x_in5 tw_2_236 rfl (by decide) e6 ?_
      refine g_bipush 89 (6 : Int32) dM_swap_87 rfl (by decide) ?_
      refine g_iload_n 90 (i := 3) dM_swap_89 rfl rfl rfl ?_
      refine g_iadd 91 dM_swap_90 rfl ?_
      refine g_iload 93 dM_swap_91 rfl rfl ?_
      obtain ⟨w7, e7, h⟩ := x_bind h
      refine g_iast 94 dM_swap_93 rfl e7 ?_
      refine g_iinc 97 [some (.ref v0), none, none, some (.int (v3 + (1 : Int32))), some (.int t3)] dM_swap_94 rfl rfl (x_inc (1 : Int32) (by decide)) rfl (by decide) ?_
      refine g_goto 54 dM_swap_97 (by decide) ?_
      refine g_less [some (.ref v0), none, none, some (.int (v3 + (1 : Int32))), none] ⟨rfl, rfl, trivial⟩ ?_
      exact ih _ _ _ h
set_option maxHeartbeats 4000000 in
set_option maxRecDepth 100000 in
theorem mM_swap (d : Nat) (hd : 1 ≤ d) {K : Option Value → x_W → Prop} {w : x_W} {v0 : Nat} {r : (Int32 × x_W)} (h : fM_swap w v0 = some r) (hK : K (some (.int r.1)) r.2) : x_M yM_swap cM_swap 5 (some .int) d 0 0 [.ref v0] w K := by
  refine x_M.of [some (.ref v0), none, none, none, none] (by decide) rfl (Nat.le_of_ble_eq_true rfl) ?_
  unfold fM_swap at h
  refine g_aload_n 1 (i := 0) dM_swap_0 rfl rfl rfl ?_
  obtain ⟨t1, e1, h⟩ := x_bind h
  refine g_getfR 4 5 0 dM_swap_1 rfl x_in5 tw_2_235 rfl (by decide) e1 ?_
  refine g_iconst 5 (0 : Int32) dM_swap_4 rfl (by decide) ?_
  obtain ⟨t2, e2, h⟩ := x_bind h
  refine g_iald 6 dM_swap_5 rfl e2 ?_
  refine g_istore_n 7 (i := 1) [some (.ref v0), some (.int t2), none, none, none] dM_swap_6 rfl rfl rfl (by decide) ?_
  refine g_aload_n 8 (i := 0) dM_swap_7 rfl rfl rfl ?_
  refine g_getfR 11 5 0 dM_swap_8 rfl x_in5 tw_2_235 rfl (by decide) e1 ?_
  refine g_iconst 12 (0 : Int32) dM_swap_11 rfl (by decide) ?_
  refine g_aload_n 13 (i := 0) dM_swap_12 rfl rfl rfl ?_
  refine g_getfR 16 5 0 dM_swap_13 rfl x_in5 tw_2_235 rfl (by decide) e1 ?_
  refine g_iconst 17 (1 : Int32) dM_swap_16 rfl (by decide) ?_
  obtain ⟨t3, e3, h⟩ := x_bind h
  refine g_iald 18 dM_swap_17 rfl e3 ?_
  obtain ⟨w4, e4, h⟩ := x_bind h
  refine g_iast 19 dM_swap_18 rfl e4 ?_
  refine g_aload_n 20 (i := 0) dM_swap_19 rfl rfl rfl ?_
  obtain ⟨t5, e5, h⟩ := x_bind h
  refine g_getfR 23 5 0 dM_swap_20 rfl x_in5 tw_2_235 rfl (by decide) e5 ?_
  refine g_iconst 24 (1 : Int32) dM_swap_23 rfl (by decide) ?_
  refine g_iload_n 25 (i := 1) dM_swap_24 rfl rfl rfl ?_
  obtain ⟨w6, e6, h⟩ := x_bind h
  refine g_iast 26 dM_swap_25 rfl e6 ?_
  refine g_aload_n 27 (i := 0) dM_swap_26 rfl rfl rfl ?_
  obtain ⟨t7, e7, h⟩ := x_bind h
  refine g_getfR 30 5 3 dM_swap_27 rfl x_in5 tw_2_238 rfl (by decide) e7 ?_
  refine g_iconst 31 (0 : Int32) dM_swap_30 rfl (by decide) ?_
  obtain ⟨t8, e8, h⟩ := x_bind h
  refine g_iald 32 dM_swap_31 rfl e8 ?_
  refine g_istore_n 33 (i := 2) [some (.ref v0), some (.int t2), some (.int t8), none, none] dM_swap_32 rfl rfl rfl (by decide) ?_
  refine g_aload_n 34 (i := 0) dM_swap_33 rfl rfl rfl ?_
  refine g_getfR 37 5 3 dM_swap_34 rfl x_in5 tw_2_238 rfl (by decide) e7 ?_
  refine g_iconst 38 (0 : Int32) dM_swap_37 rfl (by decide) ?_
  refine g_aload_n 39 (i := 0) dM_swap_38 rfl rfl rfl ?_
  refine g_getfR 42 5 3 dM_swap_39 rfl x_in5 tw_2_238 rfl (by decide) e7 ?_
  refine g_iconst 43 (1 : Int32) dM_swap_42 rfl (by decide) ?_
  obtain ⟨t9, e9, h⟩ := x_bind h
  refine g_iald 44 dM_swap_43 rfl e9 ?_
  obtain ⟨w10, e10, h⟩ := x_bind h
  refine g_iast 45 dM_swap_44 rfl e10 ?_
  refine g_aload_n 46 (i := 0) dM_swap_45 rfl rfl rfl ?_
  obtain ⟨t11, e11, h⟩ := x_bind h
  refine g_getfR 49 5 3 dM_swap_46 rfl x_in5 tw_2_238 rfl (by decide) e11 ?_
  refine g_iconst 50 (1 : Int32) dM_swap_49 rfl (by decide) ?_
  refine g_iload_n 51 (i := 2) dM_swap_50 rfl rfl rfl ?_
  obtain ⟨w12, e12, h⟩ := x_bind h
  refine g_iast 52 dM_swap_51 rfl e12 ?_
  refine g_iconst 53 (0 : Int32) dM_swap_52 rfl (by decide) ?_
  refine g_istore_n 54 (i := 3) [some (.ref v0), some (.int t2), some (.int t8), some (.int (0 : Int32)), none] dM_swap_53 rfl rfl rfl (by decide) ?_
  refine g_less [some (.ref v0), none, none, some (.int (0 : Int32)), none] ⟨rfl, rfl, trivial⟩ ?_
  exact lM_swap_54 d hd hK x_F _ _ _ h
