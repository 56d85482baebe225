/-! ActSurgery.haveSameOddsOfActs()Z: level X -/
theorem dA_haveSameOddsOfActs_0 : decode cA_haveSameOddsOfActs 0 = .ok (.iconst 0, 1) := by decide +kernel
theorem dA_haveSameOddsOfActs_1 : decode cA_haveSameOddsOfActs 1 = .ok (.istore_n 1, 1) := by decide +kernel
theorem dA_haveSameOddsOfActs_2 : decode cA_haveSameOddsOfActs 2 = .ok (.iload_n 1, 1) := by decide +kernel
theorem dA_haveSameOddsOfActs_3 : decode cA_haveSameOddsOfActs 3 = .ok (.aload_n 0, 1) := by decide +kernel
theorem dA_haveSameOddsOfActs_4 : decode cA_haveSameOddsOfActs 4 = .ok (.getfield 10, 3) := by decide +kernel
theorem dA_haveSameOddsOfActs_7 : decode cA_haveSameOddsOfActs 7 = .ok (.getfield 43, 3) := by decide +kernel
theorem dA_haveSameOddsOfActs_10 : decode cA_haveSameOddsOfActs 10 = .ok (.getfield 46, 3) := by decide +kernel
theorem dA_haveSameOddsOfActs_13 : decode cA_haveSameOddsOfActs 13 = .ok (.if_icmp .ge 43, 3) := by decide +kernel
theorem dA_haveSameOddsOfActs_16 : decode cA_haveSameOddsOfActs 16 = .ok (.aload_n 0, 1) := by decide +kernel
theorem dA_haveSameOddsOfActs_17 : decode cA_haveSameOddsOfActs 17 = .ok (.aload_n 0, 1) := by decide +kernel
theorem dA_haveSameOddsOfActs_18 : decode cA_haveSameOddsOfActs 18 = .ok (.invokevirtual 185, 3) := by decide +kernel
theorem dA_haveSameOddsOfActs_21 : decode cA_haveSameOddsOfActs 21 = .ok (.iconst 1, 1) := by decide +kernel
theorem dA_haveSameOddsOfActs_22 : decode cA_haveSameOddsOfActs 22 = .ok (.iload_n 1, 1) := by decide +kernel
theorem dA_haveSameOddsOfActs_23 : decode cA_haveSameOddsOfActs 23 = .ok (.ishl, 1) := by decide +kernel
theorem dA_haveSameOddsOfActs_24 : decode cA_haveSameOddsOfActs 24 = .ok (.iconst 0, 1) := by decide +kernel
theorem dA_haveSameOddsOfActs_25 : decode cA_haveSameOddsOfActs 25 = .ok (.invokevirtual 188, 3) := by decide +kernel
theorem dA_haveSameOddsOfActs_28 : decode cA_haveSameOddsOfActs 28 = .ok (.ifCond .eq 20, 3) := by decide +kernel
theorem dA_haveSameOddsOfActs_31 : decode cA_haveSameOddsOfActs 31 = .ok (.aload_n 0, 1) := by decide +kernel
theorem dA_haveSameOddsOfActs_32 : decode cA_haveSameOddsOfActs 32 = .ok (.aload_n 0, 1) := by decide +kernel
theorem dA_haveSameOddsOfActs_33 : decode cA_haveSameOddsOfActs 33 = .ok (.invokevirtual 185, 3) := by decide +kernel
theorem dA_haveSameOddsOfActs_36 : decode cA_haveSameOddsOfActs 36 = .ok (.iconst 1, 1) := by decide +kernel
theorem dA_haveSameOddsOfActs_37 : decode cA_haveSameOddsOfActs 37 = .ok (.iload_n 1, 1) := by decide +kernel
theorem dA_haveSameOddsOfActs_38 : decode cA_haveSameOddsOfActs 38 = .ok (.ishl, 1) := by decide +kernel
theorem dA_haveSameOddsOfActs_39 : decode cA_haveSameOddsOfActs 39 = .ok (.iconst 1, 1) := by decide +kernel
theorem dA_haveSameOddsOfActs_40 : decode cA_haveSameOddsOfActs 40 = .ok (.iload_n 1, 1) := by decide +kernel
theorem dA_haveSameOddsOfActs_41 : decode cA_haveSameOddsOfActs 41 = .ok (.ishl, 1) := by decide +kernel
theorem dA_haveSameOddsOfActs_42 : decode cA_haveSameOddsOfActs 42 = .ok (.invokevirtual 188, 3) := by decide +kernel
theorem dA_haveSameOddsOfActs_45 : decode cA_haveSameOddsOfActs 45 = .ok (.ifCond .ne 5, 3) := by decide +kernel
theorem dA_haveSameOddsOfActs_48 : decode cA_haveSameOddsOfActs 48 = .ok (.iconst 0, 1) := by decide +kernel
theorem dA_haveSameOddsOfActs_49 : decode cA_haveSameOddsOfActs 49 = .ok (.ireturn, 1) := by decide +kernel
theorem dA_haveSameOddsOfActs_50 : decode cA_haveSameOddsOfActs 50 = .ok (.iinc 1 1, 3) := by decide +kernel
theorem dA_haveSameOddsOfActs_53 : decode cA_haveSameOddsOfActs 53 = .ok (.goto (-51), 3) := by decide +kernel
theorem dA_haveSameOddsOfActs_56 : decode cA_haveSameOddsOfActs 56 = .ok (.iconst 1, 1) := by decide +kernel
theorem dA_haveSameOddsOfActs_57 : decode cA_haveSameOddsOfActs 57 = .ok (.ireturn, 1) := by decide +kernel
theorem tw_2_215 : (Jvm.Cond.instanceMethod ({ cls := "ActSurgery", name := "haveSameOdds", desc := "(III)Z" } : Jvm.MethodName)) ∈ x_GT := x_t2 215 rfl rfl
theorem tws_25 : (Jvm.Cond.selects "ActSurgery" ({ cls := "ActSurgery", name := "haveSameOdds", desc := "(III)Z" } : Jvm.MethodName) ({ cls := "ActSurgery", name := "haveSameOdds", desc := "(III)Z" } : Jvm.MethodName)) ∈ x_GT := x_ts 25 rfl rfl
theorem tw_2_216 : (Jvm.Cond.code ({ cls := "ActSurgery", name := "haveSameOdds", desc := "(III)Z" } : Jvm.MethodName) prog_1_method_37_code (5 : Nat) (Option.some Jvm.ClassFile.FieldType.boolean)) ∈ x_GT := x_t2 216 rfl rfl
theorem tw_2_213 : (Jvm.Cond.methodLink "ActSurgery" (188 : Nat) ({ cls := "ActSurgery", name := "haveSameOdds", desc := "(III)Z" } : Jvm.MethodName)) ∈ x_GT := x_t2 213 rfl rfl
theorem kA_188 : x_kV "ActSurgery" 188 yA_haveSameOdds cA_haveSameOdds 5 (some .boolean) 3 0 := ⟨tw_2_215, tws_25, tw_2_216, tw_1_1, tw_2_213, (by decide +kernel), rfl⟩
def fA_haveSameOddsOfActs_2  : Nat → x_W → Nat → Int32 → Option (Int32 × x_W)
  | 0, _, _, _ => none
  | n + 1, w, v0, v1 =>
    (x_fr w v0 0 0).bind fun t1 =>
    (x_fr w t1 2 0).bind fun t2 =>
    (x_fi w t2 1 0).bind fun t3 =>
    if t3 ≤ v1 then
      some ((1 : Int32), w)
    else
      (fA_allPlaces w v0).bind fun t5 =>
      (fA_haveSameOdds w v0 t5 ((1 : Int32) <<< (v1 &&& 31)) (0 : Int32)).bind fun q6 =>
      if q6.1 = (0 : Int32) then
        some ((0 : Int32), q6.2)
      else
        (x_ob q6.2 v0 0).bind fun _ =>
        (fA_allPlaces q6.2 v0).bind fun t9 =>
        (fA_haveSameOdds q6.2 v0 t9 ((1 : Int32) <<< (v1 &&& 31)) ((1 : Int32) <<< (v1 &&& 31))).bind fun q10 =>
        if q10.1 = (0 : Int32) then
          some ((0 : Int32), q10.2)
        else
          fA_haveSameOddsOfActs_2 n q10.2 v0 (v1 + (1 : Int32))
def fA_haveSameOddsOfActs  (w : x_W) (v0 : Nat) : Option (Int32 × x_W) :=
  fA_haveSameOddsOfActs_2 x_F w v0 (0 : Int32)
set_option maxHeartbeats 4000000 in
set_option maxRecDepth 100000 in
theorem lA_haveSameOddsOfActs_2 (d : Nat) (hd : 14 ≤ d) {K : Option Value → x_W → Prop} {r : (Int32 × x_W)} (hK : K (some (.int r.1)) r.2) : ∀ (n : Nat) (w : x_W) (v0 : Nat) (v1 : Int32), fA_haveSameOddsOfActs_2 n w v0 v1 = some r → x_G none yA_haveSameOddsOfActs cA_haveSameOddsOfActs 2 (some .boolean) (x_room d 0 0) (x_QM K 0 0) 2 [some (.ref v0), some (.int v1)] [] w 0 0 := by
  intro n
  induction n with
  | zero => intro w v0 v1 h; rw [fA_haveSameOddsOfActs_2] at h; cases h
  | succ n ih =>
    intro w v0 v1 h
    rw [fA_haveSameOddsOfActs_2] at h
    refine g_iload_n 3 (i := 1) dA_haveSameOddsOfActs_2 rfl rfl rfl ?_
    refine g_aload_n 4 (i := 0) dA_haveSameOddsOfActs_3 rfl rfl rfl ?_
    obtain ⟨t1, e1, h⟩ := x_bind h
    refine g_getfR 7 0 0 dA_haveSameOddsOfActs_4 rfl x_in0 tw_1_115 rfl (by decide) e1 ?_
    obtain ⟨t2, e2, h⟩ := x_bind h
    refine g_getfR 10 2 0 dA_haveSameOddsOfActs_7 rfl x_in2 tw_1_57 rfl (by decide) e2 ?_
    obtain ⟨t3, e3, h⟩ := x_bind h
    refine g_getfI 13 1 0 dA_haveSameOddsOfActs_10 rfl x_in1 tw_1_33 rfl (by decide) e3 ?_
    by_cases c4 : t3 ≤ v1
    · rw [if_pos c4] at h
      refine g_icmp_ge_t 56 dA_haveSameOddsOfActs_13 (by decide) c4 ?_
      refine g_iconst 57 (1 : Int32) dA_haveSameOddsOfActs_56 rfl (by decide) ?_
      obtain rfl := Option.some.inj h
      exact g_zret rfl (by decide) dA_haveSameOddsOfActs_57 hK
    · rw [if_neg c4] at h
      refine g_icmp_ge_f 16 56 dA_haveSameOddsOfActs_13 (by decide) rfl c4 ?_
      refine g_aload_n 17 (i := 0) dA_haveSameOddsOfActs_16 rfl rfl rfl ?_
      refine g_aload_n 18 (i := 0) dA_haveSameOddsOfActs_17 rfl rfl rfl ?_
      obtain ⟨t5, e5, h⟩ := x_bind h
      refine g_cV 21 (some (.int t5)) w [] [.ref v0] dA_haveSameOddsOfActs_18 rfl (fun _ hK2 => mA_allPlaces (d - 1) (by omega) e5 hK2) (x_fr_ob e1) kA_185 (x_rm (Nat.le_trans (by decide) hd) (by decide)) ⟨Nat.zero_le _, Nat.zero_le _⟩ (Nat.le_of_ble_eq_true rfl) rfl ?_
      refine g_iconst 22 (1 : Int32) dA_haveSameOddsOfActs_21 rfl (by decide) ?_
      refine g_iload_n 23 (i := 1) dA_haveSameOddsOfActs_22 rfl rfl rfl ?_
      refine g_ishl 24 dA_haveSameOddsOfActs_23 rfl ?_
      refine g_iconst 25 (0 : Int32) dA_haveSameOddsOfActs_24 rfl (by decide) ?_
      obtain ⟨q6, e6, h⟩ := x_bind h
      refine g_cV 28 (some (.int q6.1)) q6.2 [.int t5, .int ((1 : Int32) <<< (v1 &&& 31)), .int (0 : Int32)] [] dA_haveSameOddsOfActs_25 rfl (fun _ hK2 => mA_haveSameOdds (d - 1) (by omega) e6 hK2) (x_fr_ob e1) kA_188 (x_rm (Nat.le_trans (by decide) hd) (by decide)) ⟨Nat.zero_le _, Nat.zero_le _⟩ (Nat.le_of_ble_eq_true rfl) rfl ?_
      by_cases c7 : q6.1 = (0 : Int32)
      · rw [if_pos c7] at h
        refine g_if_eq_t 48 dA_haveSameOddsOfActs_28 (by decide) c7 ?_
        refine g_iconst 49 (0 : Int32) dA_haveSameOddsOfActs_48 rfl (by decide) ?_
        obtain rfl := Option.some.inj h
        exact g_zret rfl (by decide) dA_haveSameOddsOfActs_49 hK
      · rw [if_neg c7] at h
        refine g_if_eq_f 31 48 dA_haveSameOddsOfActs_28 (by decide) rfl c7 ?_
        refine g_aload_n 32 (i := 0) dA_haveSameOddsOfActs_31 rfl rfl rfl ?_
        refine g_aload_n 33 (i := 0) dA_haveSameOddsOfActs_32 rfl rfl rfl ?_
        obtain ⟨_, e8, h⟩ := x_bind h
        obtain ⟨t9, e9, h⟩ := x_bind h
        refine g_cV 36 (some (.int t9)) q6.2 [] [.ref v0] dA_haveSameOddsOfActs_33 rfl (fun _ hK2 => mA_allPlaces (d - 1) (by omega) e9 hK2) (x_ob_some e8) kA_185 (x_rm (Nat.le_trans (by decide) hd) (by decide)) ⟨Nat.zero_le _, Nat.zero_le _⟩ (Nat.le_of_ble_eq_true rfl) rfl ?_
        refine g_iconst 37 (1 : Int32) dA_haveSameOddsOfActs_36 rfl (by decide) ?_
        refine g_iload_n 38 (i := 1) dA_haveSameOddsOfActs_37 rfl rfl rfl ?_
        refine g_ishl 39 dA_haveSameOddsOfActs_38 rfl ?_
        refine g_iconst 40 (1 : Int32) dA_haveSameOddsOfActs_39 rfl (by decide) ?_
        refine g_iload_n 41 (i := 1) dA_haveSameOddsOfActs_40 rfl rfl rfl ?_
        refine g_ishl 42 dA_haveSameOddsOfActs_41 rfl ?_
        obtain ⟨q10, e10, h⟩ := x_bind h
        refine g_cV 45 (some (.int q10.1)) q10.2 [.int t9, .int ((1 : Int32) <<< (v1 &&& 31)), .int ((1 : Int32) <<< (v1 &&& 31))] [] dA_haveSameOddsOfActs_42 rfl (fun _ hK2 => mA_haveSameOdds (d - 1) (by omega) e10 hK2) (x_ob_some e8) kA_188 (x_rm (Nat.le_trans (by decide) hd) (by decide)) ⟨Nat.zero_le _, Nat.zero_le _⟩ (Nat.le_of_ble_eq_true rfl) rfl ?_
        by_cases c11 : q10.1 = (0 : Int32)
        · rw [if_pos c11] at h
          refine g_if_ne_f 48 50 dA_haveSameOddsOfActs_45 (by decide) rfl c11 ?_
          refine g_iconst 49 (0 : Int32) dA_haveSameOddsOfActs_48 rfl (by decide) ?_
          obtain rfl := Option.some.inj h
          exact g_zret rfl (by decide) dA_haveSameOddsOfActs_49 hK
        · rw [if_neg c11] at h
          refine g_if_ne_t 50 dA_haveSameOddsOfActs_45 (by decide) c11 ?_
          refine g_iinc 53 [some (.ref v0), some (.int (v1 + (1 : Int32)))] dA_haveSameOddsOfActs_50 rfl rfl (x_inc (1 : Int32) (by decide)) rfl (by decide) ?_
          refine g_goto 2 dA_haveSameOddsOfActs_53 (by decide) ?_
          exact ih _ _ _ h
set_option maxHeartbeats 4000000 in
set_option maxRecDepth 100000 in
theorem mA_haveSameOddsOfActs (d : Nat) (hd : 14 ≤ d) {K : Option Value → x_W → Prop} {w : x_W} {v0 : Nat} {r : (Int32 × x_W)} (h : fA_haveSameOddsOfActs w v0 = some r) (hK : K (some (.int r.1)) r.2) : x_M yA_haveSameOddsOfActs cA_haveSameOddsOfActs 2 (some .boolean) d 0 0 [.ref v0] w K := by
  refine x_M.of [some (.ref v0), none] (by decide) rfl (Nat.le_of_ble_eq_true rfl) ?_
  unfold fA_haveSameOddsOfActs at h
  refine g_iconst 1 (0 : Int32) dA_haveSameOddsOfActs_0 rfl (by decide) ?_
  refine g_istore_n 2 (i := 1) [some (.ref v0), some (.int (0 : Int32))] dA_haveSameOddsOfActs_1 rfl rfl rfl (by decide) ?_
  exact lA_haveSameOddsOfActs_2 d hd hK x_F _ _ _ h
/-! ActSurgery$Arrows.hasShapeOf(LActSurgery$Arrows;)Z: level P -/
theorem dR_hasShapeOf_0 : decode cR_hasShapeOf 0 = .ok (.iconst 0, 1) := by decide +kernel
theorem dR_hasShapeOf_1 : decode cR_hasShapeOf 1 = .ok (.istore_n 2, 1) := by decide +kernel
theorem dR_hasShapeOf_2 : decode cR_hasShapeOf 2 = .ok (.iload_n 2, 1) := by decide +kernel
theorem dR_hasShapeOf_3 : decode cR_hasShapeOf 3 = .ok (.aload_n 0, 1) := by decide +kernel
theorem dR_hasShapeOf_4 : decode cR_hasShapeOf 4 = .ok (.getfield 15, 3) := by decide +kernel
theorem dR_hasShapeOf_7 : decode cR_hasShapeOf 7 = .ok (.if_icmp .ge 26, 3) := by decide +kernel
theorem dR_hasShapeOf_10 : decode cR_hasShapeOf 10 = .ok (.aload_n 0, 1) := by decide +kernel
theorem dR_hasShapeOf_11 : decode cR_hasShapeOf 11 = .ok (.getfield 9, 3) := by decide +kernel
theorem dR_hasShapeOf_14 : decode cR_hasShapeOf 14 = .ok (.iload_n 2, 1) := by decide +kernel
theorem dR_hasShapeOf_15 : decode cR_hasShapeOf 15 = .ok (.iaload, 1) := by decide +kernel
theorem dR_hasShapeOf_16 : decode cR_hasShapeOf 16 = .ok (.aload_n 1, 1) := by decide +kernel
theorem dR_hasShapeOf_17 : decode cR_hasShapeOf 17 = .ok (.getfield 9, 3) := by decide +kernel
theorem dR_hasShapeOf_20 : decode cR_hasShapeOf 20 = .ok (.iload_n 2, 1) := by decide +kernel
theorem dR_hasShapeOf_21 : decode cR_hasShapeOf 21 = .ok (.iaload, 1) := by decide +kernel
theorem dR_hasShapeOf_22 : decode cR_hasShapeOf 22 = .ok (.if_icmp .eq 5, 3) := by decide +kernel
theorem dR_hasShapeOf_25 : decode cR_hasShapeOf 25 = .ok (.iconst 0, 1) := by decide +kernel
theorem dR_hasShapeOf_26 : decode cR_hasShapeOf 26 = .ok (.ireturn, 1) := by decide +kernel
theorem dR_hasShapeOf_27 : decode cR_hasShapeOf 27 = .ok (.iinc 2 1, 3) := by decide +kernel
theorem dR_hasShapeOf_30 : decode cR_hasShapeOf 30 = .ok (.goto (-28), 3) := by decide +kernel
theorem dR_hasShapeOf_33 : decode cR_hasShapeOf 33 = .ok (.iconst 1, 1) := by decide +kernel
theorem dR_hasShapeOf_34 : decode cR_hasShapeOf 34 = .ok (.ireturn, 1) := by decide +kernel
def fR_hasShapeOf_2 (w : x_W) : Nat → Nat → Nat → Int32 → Option Int32
  | 0, _, _, _ => none
  | n + 1, v0, v1, v2 =>
    (x_fi w v0 1 0).bind fun t1 =>
    if t1 ≤ v2 then
      some (1 : Int32)
    else
      (x_fr w v0 1 1).bind fun t3 =>
      (x_ai w t3 v2).bind fun t4 =>
      (x_fr w v1 1 1).bind fun t5 =>
      (x_ai w t5 v2).bind fun t6 =>
      if t4 = t6 then
        fR_hasShapeOf_2 w n v0 v1 (v2 + (1 : Int32))
      else
        some (0 : Int32)
def fR_hasShapeOf (w : x_W) (v0 : Nat) (v1 : Nat) : Option Int32 :=
  fR_hasShapeOf_2 w x_F v0 v1 (0 : Int32)
set_option maxHeartbeats 4000000 in
set_option maxRecDepth 100000 in
theorem lR_hasShapeOf_2 (d : Nat) (hd : 1 ≤ d) {K : Option Value → x_W → Prop} {r : Int32} {w : x_W} (hK : K (some (.int r)) w) : ∀ (n : Nat) (v0 : Nat) (v1 : Nat) (v2 : Int32), fR_hasShapeOf_2 w n v0 v1 v2 = some r → x_G none yR_hasShapeOf cR_hasShapeOf 3 (some .boolean) (x_room d 0 0) (x_QM K 0 0) 2 [some (.ref v0), some (.ref v1), some (.int v2)] [] w 0 0 := by
  intro n
  induction n with
  | zero => intro v0 v1 v2 h; rw [fR_hasShapeOf_2] at h; cases h
  | succ n ih =>
    intro v0 v1 v2 h
    rw [fR_hasShapeOf_2] at h
    refine g_iload_n 3 (i := 2) dR_hasShapeOf_2 rfl rfl rfl ?_
    refine g_aload_n 4 (i := 0) dR_hasShapeOf_3 rfl rfl rfl ?_
    obtain ⟨t1, e1, h⟩ := x_bind h
    refine g_getfI 7 1 0 dR_hasShapeOf_4 rfl x_in1 tw_1_31 rfl (by decide) e1 ?_
    by_cases c2 : t1 ≤ v2
    · rw [if_pos c2] at h
      refine g_icmp_ge_t 33 dR_hasShapeOf_7 (by decide) c2 ?_
      refine g_iconst 34 (1 : Int32) dR_hasShapeOf_33 rfl (by decide) ?_
      obtain rfl := Option.some.inj h
      exact g_zret rfl (by decide) dR_hasShapeOf_34 hK
    · rw [if_neg c2] at h
      refine g_icmp_ge_f 10 33 dR_hasShapeOf_7 (by decide) rfl c2 ?_
      refine g_aload_n 11 (i := 0) dR_hasShapeOf_10 rfl rfl rfl ?_
      obtain ⟨t3, e3, h⟩ := x_bind h
      refine g_getfR 14 1 1 dR_hasShapeOf_11 rfl x_in1 tw_1_34 rfl (by decide) e3 ?_
      refine g_iload_n 15 (i := 2) dR_hasShapeOf_14 rfl rfl rfl ?_
      obtain ⟨t4, e4, h⟩ := x_bind h
      refine g_iald 16 dR_hasShapeOf_15 rfl e4 ?_
      refine g_aload_n 17 (i := 1) dR_hasShapeOf_16 rfl rfl rfl ?_
      obtain ⟨t5, e5, h⟩ := x_bind h
      refine g_getfR 20 1 1 dR_hasShapeOf_17 rfl x_in1 tw_1_34 rfl (by decide) e5 ?_
      refine g_iload_n 21 (i := 2) dR_hasShapeOf_20 rfl rfl rfl ?_
      obtain ⟨t6, e6, h⟩ := x_bind h
      refine g_iald 22 dR_hasShapeOf_21 rfl e6 ?_
      by_cases c7 : t4 = t6
      · rw [if_pos c7] at h
        refine g_icmp_eq_t 27 dR_hasShapeOf_22 (by decide) c7 ?_
        refine g_iinc 30 [some (.ref v0), some (.ref v1), some (.int (v2 + (1 : Int32)))] dR_hasShapeOf_27 rfl rfl (x_inc (1 : Int32) (by decide)) rfl (by decide) ?_
        refine g_goto 2 dR_hasShapeOf_30 (by decide) ?_
        exact ih _ _ _ h
      · rw [if_neg c7] at h
        refine g_icmp_eq_f 25 27 dR_hasShapeOf_22 (by decide) rfl c7 ?_
        refine g_iconst 26 (0 : Int32) dR_hasShapeOf_25 rfl (by decide) ?_
        obtain rfl := Option.some.inj h
        exact g_zret rfl (by decide) dR_hasShapeOf_26 hK
set_option maxHeartbeats 4000000 in
set_option maxRecDepth 100000 in
theorem mR_hasShapeOf (d : Nat) (hd : 1 ≤ d) {K : Option Value → x_W → Prop} {w : x_W} {v0 : Nat} {v1 : Nat} {r : Int32} (h : fR_hasShapeOf w v0 v1 = some r) (hK : K (some (.int r)) w) : x_M yR_hasShapeOf cR_hasShapeOf 3 (some .boolean) d 0 0 [.ref v0, .ref v1] w K := by
  refine x_M.of [some (.ref v0), some (.ref v1), none] (by decide) rfl (Nat.le_of_ble_eq_true rfl) ?_
  unfold fR_hasShapeOf at h
  refine g_iconst 1 (0 : Int32) dR_hasShapeOf_0 rfl (by decide) ?_
  refine g_istore_n 2 (i := 2) [some (.ref v0), some (.ref v1), some (.int (0 : Int32))] dR_hasShapeOf_1 rfl rfl rfl (by decide) ?_
  exact lR_hasShapeOf_2 d hd hK x_F _ _ _ h
/-! ActSurgery.alike(I)I: level X -/
theorem dA_alike_0 : decode cA_alike 0 = .ok (.iload_n 1, 1) := by decide +kernel
theorem dA_alike_1 : decode cA_alike 1 = .ok (.ifCond .lt 8, 3) := by decide +kernel
theorem dA_alike_4 : decode cA_alike 4 = .ok (.iload_n 1, 1) := by decide +kernel
theorem dA_alike_5 : decode cA_alike 5 = .ok (.iconst 3, 1) := by decide +kernel
theorem dA_alike_6 : decode cA_alike 6 = .ok (.if_icmp .le 6, 3) := by decide +kernel
theorem dA_alike_9 : decode cA_alike 9 = .ok (.bipush (-2), 2) := by decide +kernel
theorem dA_alike_11 : decode cA_alike 11 = .ok (.ireturn, 1) := by decide +kernel
theorem dA_alike_12 : decode cA_alike 12 = .ok (.aload_n 0, 1) := by decide +kernel
theorem dA_alike_13 : decode cA_alike 13 = .ok (.getfield 10, 3) := by decide +kernel
theorem dA_alike_16 : decode cA_alike 16 = .ok (.getfield 43, 3) := by decide +kernel
theorem dA_alike_19 : decode cA_alike 19 = .ok (.getfield 46, 3) := by decide +kernel
theorem dA_alike_22 : decode cA_alike 22 = .ok (.aload_n 0, 1) := by decide +kernel
theorem dA_alike_23 : decode cA_alike 23 = .ok (.getfield 16, 3) := by decide +kernel
theorem dA_alike_26 : decode cA_alike 26 = .ok (.getfield 43, 3) := by decide +kernel
theorem dA_alike_29 : decode cA_alike 29 = .ok (.getfield 46, 3) := by decide +kernel
theorem dA_alike_32 : decode cA_alike 32 = .ok (.if_icmp .eq 5, 3) := by decide +kernel
theorem dA_alike_35 : decode cA_alike 35 = .ok (.iconst 0, 1) := by decide +kernel
theorem dA_alike_36 : decode cA_alike 36 = .ok (.ireturn, 1) := by decide +kernel
theorem dA_alike_37 : decode cA_alike 37 = .ok (.iload_n 1, 1) := by decide +kernel
theorem dA_alike_38 : decode cA_alike 38 = .ok (.tableswitch 90 0 2 #[26, 47, 61], 26) := by decide +kernel
theorem dA_alike_64 : decode cA_alike 64 = .ok (.aload_n 0, 1) := by decide +kernel
theorem dA_alike_65 : decode cA_alike 65 = .ok (.getfield 10, 3) := by decide +kernel
theorem dA_alike_68 : decode cA_alike 68 = .ok (.getfield 43, 3) := by decide +kernel
theorem dA_alike_71 : decode cA_alike 71 = .ok (.aload_n 0, 1) := by decide +kernel
theorem dA_alike_72 : decode cA_alike 72 = .ok (.getfield 16, 3) := by decide +kernel
theorem dA_alike_75 : decode cA_alike 75 = .ok (.getfield 43, 3) := by decide +kernel
theorem dA_alike_78 : decode cA_alike 78 = .ok (.invokevirtual 181, 3) := by decide +kernel
theorem dA_alike_81 : decode cA_alike 81 = .ok (.invokestatic 88, 3) := by decide +kernel
theorem dA_alike_84 : decode cA_alike 84 = .ok (.ireturn, 1) := by decide +kernel
theorem dA_alike_85 : decode cA_alike 85 = .ok (.aload_n 0, 1) := by decide +kernel
theorem dA_alike_86 : decode cA_alike 86 = .ok (.aload_n 0, 1) := by decide +kernel
theorem dA_alike_87 : decode cA_alike 87 = .ok (.invokevirtual 185, 3) := by decide +kernel
theorem dA_alike_90 : decode cA_alike 90 = .ok (.iconst 0, 1) := by decide +kernel
theorem dA_alike_91 : decode cA_alike 91 = .ok (.iconst 0, 1) := by decide +kernel
theorem dA_alike_92 : decode cA_alike 92 = .ok (.invokevirtual 188, 3) := by decide +kernel
theorem dA_alike_95 : decode cA_alike 95 = .ok (.invokestatic 88, 3) := by decide +kernel
theorem dA_alike_98 : decode cA_alike 98 = .ok (.ireturn, 1) := by decide +kernel
theorem dA_alike_99 : decode cA_alike 99 = .ok (.aload_n 0, 1) := by decide +kernel
theorem dA_alike_100 : decode cA_alike 100 = .ok (.aload_n 0, 1) := by decide +kernel
theorem dA_alike_101 : decode cA_alike 101 = .ok (.invokevirtual 185, 3) := by decide +kernel
theorem dA_alike_104 : decode cA_alike 104 = .ok (.iconst 0, 1) := by decide +kernel
theorem dA_alike_105 : decode cA_alike 105 = .ok (.iconst 0, 1) := by decide +kernel
theorem dA_alike_106 : decode cA_alike 106 = .ok (.invokevirtual 188, 3) := by decide +kernel
theorem dA_alike_109 : decode cA_alike 109 = .ok (.ifCond .eq 14, 3) := by decide +kernel
theorem dA_alike_112 : decode cA_alike 112 = .ok (.aload_n 0, 1) := by decide +kernel
theorem dA_alike_113 : decode cA_alike 113 = .ok (.invokevirtual 191, 3) := by decide +kernel
theorem dA_alike_116 : decode cA_alike 116 = .ok (.ifCond .eq 7, 3) := by decide +kernel
theorem dA_alike_119 : decode cA_alike 119 = .ok (.iconst 1, 1) := by decide +kernel
theorem dA_alike_120 : decode cA_alike 120 = .ok (.goto 4, 3) := by decide +kernel
theorem dA_alike_123 : decode cA_alike 123 = .ok (.iconst 0, 1) := by decide +kernel
theorem dA_alike_124 : decode cA_alike 124 = .ok (.invokestatic 88, 3) := by decide +kernel
theorem dA_alike_127 : decode cA_alike 127 = .ok (.ireturn, 1) := by decide +kernel
theorem dA_alike_128 : decode cA_alike 128 = .ok (.aload_n 0, 1) := by decide +kernel
theorem dA_alike_129 : decode cA_alike 129 = .ok (.aload_n 0, 1) := by decide +kernel
theorem dA_alike_130 : decode cA_alike 130 = .ok (.invokevirtual 185, 3) := by decide +kernel
theorem dA_alike_133 : decode cA_alike 133 = .ok (.aload_n 0, 1) := by decide +kernel
theorem dA_alike_134 : decode cA_alike 134 = .ok (.getfield 10, 3) := by decide +kernel
theorem dA_alike_137 : decode cA_alike 137 = .ok (.getfield 82, 3) := by decide +kernel
theorem dA_alike_140 : decode cA_alike 140 = .ok (.iconst (-1), 1) := by decide +kernel
theorem dA_alike_141 : decode cA_alike 141 = .ok (.ixor, 1) := by decide +kernel
theorem dA_alike_142 : decode cA_alike 142 = .ok (.iand, 1) := by decide +kernel
theorem dA_alike_143 : decode cA_alike 143 = .ok (.aload_n 0, 1) := by decide +kernel
theorem dA_alike_144 : decode cA_alike 144 = .ok (.getfield 16, 3) := by decide +kernel
theorem dA_alike_147 : decode cA_alike 147 = .ok (.getfield 82, 3) := by decide +kernel
theorem dA_alike_150 : decode cA_alike 150 = .ok (.iconst (-1), 1) := by decide +kernel
theorem dA_alike_151 : decode cA_alike 151 = .ok (.ixor, 1) := by decide +kernel
theorem dA_alike_152 : decode cA_alike 152 = .ok (.iand, 1) := by decide +kernel
theorem dA_alike_153 : decode cA_alike 153 = .ok (.iconst 0, 1) := by decide +kernel
theorem dA_alike_154 : decode cA_alike 154 = .ok (.iconst 0, 1) := by decide +kernel
theorem dA_alike_155 : decode cA_alike 155 = .ok (.invokevirtual 188, 3) := by decide +kernel
theorem dA_alike_158 : decode cA_alike 158 = .ok (.invokestatic 88, 3) := by decide +kernel
theorem dA_alike_161 : decode cA_alike 161 = .ok (.ireturn, 1) := by decide +kernel
theorem tw_2_210 : (Jvm.Cond.instanceMethod ({ cls := "ActSurgery$Arrows", name := "hasShapeOf", desc := "(LActSurgery$Arrows;)Z" } : Jvm.MethodName)) ∈ x_GT := x_t2 210 rfl rfl
theorem tw_2_211 : (Jvm.Cond.selects "ActSurgery$Arrows" ({ cls := "ActSurgery$Arrows", name := "hasShapeOf", desc := "(LActSurgery$Arrows;)Z" } : Jvm.MethodName) ({ cls := "ActSurgery$Arrows", name := "hasShapeOf", desc := "(LActSurgery$Arrows;)Z" } : Jvm.MethodName)) ∈ x_GT := x_t2 211 rfl rfl
theorem tw_2_212 : (Jvm.Cond.code ({ cls := "ActSurgery$Arrows", name := "hasShapeOf", desc := "(LActSurgery$Arrows;)Z" } : Jvm.MethodName) prog_2_method_14_code (3 : Nat) (Option.some Jvm.ClassFile.FieldType.boolean)) ∈ x_GT := x_t2 212 rfl rfl
theorem tw_2_209 : (Jvm.Cond.methodLink "ActSurgery" (181 : Nat) ({ cls := "ActSurgery$Arrows", name := "hasShapeOf", desc := "(LActSurgery$Arrows;)Z" } : Jvm.MethodName)) ∈ x_GT := x_t2 209 rfl rfl
theorem kA_181 : x_kV "ActSurgery" 181 yR_hasShapeOf cR_hasShapeOf 3 (some .boolean) 1 1 := ⟨tw_2_210, tw_2_211, tw_2_212, tw_1_3, tw_2_209, (by decide +kernel), rfl⟩
theorem tw_2_219 : (Jvm.Cond.instanceMethod ({ cls := "ActSurgery", name := "haveSameOddsOfActs", desc := "()Z" } : Jvm.MethodName)) ∈ x_GT := x_t2 219 rfl rfl
theorem tws_26 : (Jvm.Cond.selects "ActSurgery" ({ cls := "ActSurgery", name := "haveSameOddsOfActs", desc := "()Z" } : Jvm.MethodName) ({ cls := "ActSurgery", name := "haveSameOddsOfActs", desc := "()Z" } : Jvm.MethodName)) ∈ x_GT := x_ts 26 rfl rfl
theorem tw_2_220 : (Jvm.Cond.code ({ cls := "ActSurgery", name := "haveSameOddsOfActs", desc := "()Z" } : Jvm.MethodName) prog_1_method_38_code (2 : Nat) (Option.some Jvm.ClassFile.FieldType.boolean)) ∈ x_GT := x_t2 220 rfl rfl
theorem tw_2_217 : (Jvm.Cond.methodLink "ActSurgery" (191 : Nat) ({ cls := "ActSurgery", name := "haveSameOddsOfActs", desc := "()Z" } : Jvm.MethodName)) ∈ x_GT := x_t2 217 rfl rfl
theorem kA_191 : x_kV "ActSurgery" 191 yA_haveSameOddsOfActs cA_haveSameOddsOfActs 2 (some .boolean) 0 0 := ⟨tw_2_219, tws_26, tw_2_220, tw_1_1, tw_2_217, (by decide +kernel), rfl⟩
def fA_alike  (w : x_W) (v0 : Nat) (v1 : Int32) : Option (Int32 × x_W) :=
  if v1 < (0 : Int32) then
    some ((-2 : Int32), w)
  else
    if v1 ≤ (3 : Int32) then
      (x_fr w v0 0 0).bind fun t3 =>
      (x_fr w t3 2 0).bind fun t4 =>
      (x_fi w t4 1 0).bind fun t5 =>
      (x_fr w v0 0 1).bind fun t6 =>
      (x_fr w t6 2 0).bind fun t7 =>
      (x_fi w t7 1 0).bind fun t8 =>
      if t5 = t8 then
        if v1 = (0 : Int32) then
          (fR_hasShapeOf w t4 t7).bind fun t11 =>
          some ((fA_asNumber t11), w)
        else
        if v1 = (1 : Int32) then
          (fA_allPlaces w v0).bind fun t13 =>
          (fA_haveSameOdds w v0 t13 (0 : Int32) (0 : Int32)).bind fun q14 =>
          some ((fA_asNumber q14.1), q14.2)
        else
        if v1 = (2 : Int32) then
          (fA_allPlaces w v0).bind fun t16 =>
          (fA_haveSameOdds w v0 t16 (0 : Int32) (0 : Int32)).bind fun q17 =>
          if q17.1 = (0 : Int32) then
            some ((fA_asNumber (0 : Int32)), q17.2)
          else
            (x_ob q17.2 v0 0).bind fun _ =>
            (fA_haveSameOddsOfActs q17.2 v0).bind fun q20 =>
            if q20.1 = (0 : Int32) then
              some ((fA_asNumber (0 : Int32)), q20.2)
            else
              some ((fA_asNumber (1 : Int32)), q20.2)
        else
          (fA_allPlaces w v0).bind fun t22 =>
          (x_fi w t3 2 2).bind fun t23 =>
          (x_fi w t6 2 2).bind fun t24 =>
          (fA_haveSameOdds w v0 ((t22 &&& (t23 ^^^ (-1 : Int32))) &&& (t24 ^^^ (-1 : Int32))) (0 : Int32) (0 : Int32)).bind fun q25 =>
          some ((fA_asNumber q25.1), q25.2)
      else
        some ((0 : Int32), w)
    else
      some ((-2 : Int32), w)
set_option maxHeartbeats 4000000 in
set_option maxRecDepth 100000 in
theorem mA_alike (d : Nat) (hd : 15 ≤ d) {K : Option Value → x_W → Prop} {w : x_W} {v0 : Nat} {v1 : Int32} {r : (Int32 × x_W)} (h : fA_alike w v0 v1 = some r) (hK : K (some (.int r.1)) r.2) : x_M yA_alike cA_alike 2 (some .int) d 0 0 [.ref v0, .int v1] w K := by
  refine x_M.of [some (.ref v0), some (.int v1)] (by decide) rfl (Nat.le_of_ble_eq_true rfl) ?_
  unfold fA_alike at h
  refine g_iload_n 1 (i := 1) dA_alike_0 rfl rfl rfl ?_
  by_cases c1 : v1 < (0 : Int32)
  · rw [if_pos c1] at h
    refine g_if_lt_t 9 dA_alike_1 (by decide) c1 ?_
    refine g_bipush 11 (-2 : Int32) dA_alike_9 rfl (by decide) ?_
    obtain rfl := Option.some.inj h
    exact g_iret rfl dA_alike_11 hK
  · rw [if_neg c1] at h
    refine g_if_lt_f 4 9 dA_alike_1 (by decide) rfl c1 ?_
    refine g_iload_n 5 (i := 1) dA_alike_4 rfl rfl rfl ?_
    refine g_iconst 6 (3 : Int32) dA_alike_5 rfl (by decide) ?_
    by_cases c2 : v1 ≤ (3 : Int32)
    · rw [if_pos c2] at h
      refine g_icmp_le_t 12 dA_alike_6 (by decide) c2 ?_
      refine g_aload_n 13 (i := 0) dA_alike_12 rfl rfl rfl ?_
      obtain ⟨t3, e3, h⟩ := x_bind h
      refine g_getfR 16 0 0 dA_alike_13 rfl x_in0 tw_1_115 rfl (by decide) e3 ?_
      obtain ⟨t4, e4, h⟩ := x_bind h
      refine g_getfR 19 2 0 dA_alike_16 rfl x_in2 tw_1_57 rfl (by decide) e4 ?_
      obtain ⟨t5, e5, h⟩ := x_bind h
      refine g_getfI 22 1 0 dA_alike_19 rfl x_in1 tw_1_33 rfl (by decide) e5 ?_
      refine g_aload_n 23 (i := 0) dA_alike_22 rfl rfl rfl ?_
      obtain ⟨t6, e6, h⟩ := x_bind h
      refine g_getfR 26 0 1 dA_alike_23 rfl x_in0 tw_1_116 rfl (by decide) e6 ?_
      obtain ⟨t7, e7, h⟩ := x_bind h
      refine g_getfR 29 2 0 dA_alike_26 rfl x_in2 tw_1_57 rfl (by decide) e7 ?_
      obtain ⟨t8, e8, h⟩ := x_bind h
      refine g_getfI 32 1 0 dA_alike_29 rfl x_in1 tw_1_33 rfl (by decide) e8 ?_
      by_cases c9 : t5 = t8
      · rw [if_pos c9] at h
        refine g_icmp_eq_t 37 dA_alike_32 (by decide) c9 ?_
        refine g_iload_n 38 (i := 1) dA_alike_37 rfl rfl rfl ?_
        by_cases c10 : v1 = (0 : Int32)
        · rw [if_pos c10] at h
          refine g_tabIn 64 (v := (0 : Int32)) dA_alike_38 c10 (by decide) (by decide) rfl (by decide) ?_
          refine g_aload_n 65 (i := 0) dA_alike_64 rfl rfl rfl ?_
          refine g_getfR 68 0 0 dA_alike_65 rfl x_in0 tw_1_115 rfl (by decide) e3 ?_
          refine g_getfR 71 2 0 dA_alike_68 rfl x_in2 tw_1_57 rfl (by decide) e4 ?_
          refine g_aload_n 72 (i := 0) dA_alike_71 rfl rfl rfl ?_
          refine g_getfR 75 0 1 dA_alike_72 rfl x_in0 tw_1_116 rfl (by decide) e6 ?_
          refine g_getfR 78 2 0 dA_alike_75 rfl x_in2 tw_1_57 rfl (by decide) e7 ?_
          obtain ⟨t11, e11, h⟩ := x_bind h
          refine g_cV 81 (some (.int t11)) w [.ref t7] [] dA_alike_78 rfl (fun _ hK2 => mR_hasShapeOf (d - 1) (by omega) e11 hK2) (x_fi_ob e5) kA_181 (x_rm (Nat.le_trans (by decide) hd) (by decide)) ⟨Nat.zero_le _, Nat.zero_le _⟩ (Nat.le_of_ble_eq_true rfl) rfl ?_
          refine g_cS 84 (some (.int (fA_asNumber t11))) w [.int t11] [] dA_alike_81 rfl (fun _ hK2 => mA_asNumber (d - 1) (by omega) rfl hK2) kA_88 (x_rm (Nat.le_trans (by decide) hd) (by decide)) ⟨Nat.zero_le _, Nat.zero_le _⟩ (Nat.le_of_ble_eq_true rfl) rfl ?_
          obtain rfl := Option.some.inj h
          exact g_iret rfl dA_alike_84 hK
        · rw [if_neg c10] at h
          by_cases c12 : v1 = (1 : Int32)
          · rw [if_pos c12] at h
            refine g_tabIn 85 (v := (1 : Int32)) dA_alike_38 c12 (by decide) (by decide) rfl (by decide) ?_
            refine g_aload_n 86 (i := 0) dA_alike_85 rfl rfl rfl ?_
            refine g_aload_n 87 (i := 0) dA_alike_86 rfl rfl rfl ?_
            obtain ⟨t13, e13, h⟩ := x_bind h
            refine g_cV 90 (some (.int t13)) w [] [.ref v0] dA_alike_87 rfl (fun _ hK2 => mA_allPlaces (d - 1) (by omega) e13 hK2) (x_fr_ob e6) kA_185 (x_rm (Nat.le_trans (by decide) hd) (by decide)) ⟨Nat.zero_le _, Nat.zero_le _⟩ (Nat.le_of_ble_eq_true rfl) rfl ?_
            refine g_iconst 91 (0 : Int32) dA_alike_90 rfl (by decide) ?_
            refine g_iconst 92 (0 : Int32) dA_alike_91 rfl (by decide) ?_
            obtain ⟨q14, e14, h⟩ := x_bind h
            refine g_cV 95 (some (.int q14.1)) q14.2 [.int t13, .int (0 : Int32), .int (0 : Int32)] [] dA_alike_92 rfl (fun _ hK2 => mA_haveSameOdds (d - 1) (by omega) e14 hK2) (x_fr_ob e6) kA_188 (x_rm (Nat.le_trans (by decide) hd) (by decide)) ⟨Nat.zero_le _, Nat.zero_le _⟩ (Nat.le_of_ble_eq_true rfl) rfl ?_
            refine g_cS 98 (some (.int (fA_asNumber q14.1))) q14.2 [.int q14.1] [] dA_alike_95 rfl (fun _ hK2 => mA_asNumber (d - 1) (by omega) rfl hK2) kA_88 (x_rm (Nat.le_trans (by decide) hd) (by decide)) ⟨Nat.zero_le _, Nat.zero_le _⟩ (Nat.le_of_ble_eq_true rfl) rfl ?_
            obtain rfl := Option.some.inj h
            exact g_iret rfl dA_alike_98 hK
          · rw [if_neg c12] at h
            by_cases c15 : v1 = (2 : Int32)
            · rw [if_pos c15] at h
              refine g_tabIn 99 (v := (2 : Int32)) dA_alike_38 c15 (by decide) (by decide) rfl (by decide) ?_
              refine g_aload_n 100 (i := 0) dA_alike_99 rfl rfl rfl ?_
              refine g_aload_n 101 (i := 0) dA_alike_100 rfl rfl rfl ?_
              obtain ⟨t16, e16, h⟩ := x_bind h
              refine g_cV 104 (some (.int t16)) w [] [.ref v0] dA_alike_101 rfl (fun _ hK2 => mA_allPlaces (d - 1) (by omega) e16 hK2) (x_fr_ob e6) kA_185 (x_rm (Nat.le_trans (by decide) hd) (by decide)) ⟨Nat.zero_le _, Nat.zero_le _⟩ (Nat.le_of_ble_eq_true rfl) rfl ?_
              refine g_iconst 105 (0 : Int32) dA_alike_104 rfl (by decide) ?_
              refine g_iconst 106 (0 : Int32) dA_alike_105 rfl (by decide) ?_
              obtain ⟨q17, e17, h⟩ := x_bind h
              refine g_cV 109 (some (.int q17.1)) q17.2 [.int t16, .int (0 : Int32), .int (0 : Int32)] [] dA_alike_106 rfl (fun _ hK2 => mA_haveSameOdds (d - 1) (by omega) e17 hK2) (x_fr_ob e6) kA_188 (x_rm (Nat.le_trans (by decide) hd) (by decide)) ⟨Nat.zero_le _, Nat.zero_le _⟩ (Nat.le_of_ble_eq_true rfl) rfl ?_
              by_cases c18 : q17.1 = (0 : Int32)
              · rw [if_pos c18] at h
                refine g_if_eq_t 123 dA_alike_109 (by decide) c18 ?_
                refine g_iconst 124 (0 : Int32) dA_alike_123 rfl (by decide) ?_
                refine g_cS 127 (some (.int (fA_asNumber (0 : Int32)))) q17.2 [.int (0 : Int32)] [] dA_alike_124 rfl (fun _ hK2 => mA_asNumber (d - 1) (by omega) rfl hK2) kA_88 (x_rm (Nat.le_trans (by decide) hd) (by decide)) ⟨Nat.zero_le _, Nat.zero_le _⟩ (Nat.le_of_ble_eq_true rfl) rfl ?_
                obtain rfl := Option.some.inj h
                exact g_iret rfl dA_alike_127 hK
              · rw [if_neg c18] at h
                refine g_if_eq_f 112 123 dA_alike_109 (by decide) rfl c18 ?_
                refine g_aload_n 113 (i := 0) dA_alike_112 rfl rfl rfl ?_
                obtain ⟨_, e19, h⟩ := x_bind h
                obtain ⟨q20, e20, h⟩ := x_bind h
                refine g_cV 116 (some (.int q20.1)) q20.2 [] [] dA_alike_113 rfl (fun _ hK2 => mA_haveSameOddsOfActs (d - 1) (by omega) e20 hK2) (x_ob_some e19) kA_191 (x_rm (Nat.le_trans (by decide) hd) (by decide)) ⟨Nat.zero_le _, Nat.zero_le _⟩ (Nat.le_of_ble_eq_true rfl) rfl ?_
                by_cases c21 : q20.1 = (0 : Int32)
                · rw [if_pos c21] at h
                  refine g_if_eq_t 123 dA_alike_116 (by decide) c21 ?_
                  refine g_iconst 124 (0 : Int32) dA_alike_123 rfl (by decide) ?_
                  refine g_cS 127 (some (.int (fA_asNumber (0 : Int32)))) q20.2 [.int (0 : Int32)] [] dA_alike_124 rfl (fun _ hK2 => mA_asNumber (d - 1) (by omega) rfl hK2) kA_88 (x_rm (Nat.le_trans (by decide) hd) (by decide)) ⟨Nat.zero_le _, Nat.zero_le _⟩ (Nat.le_of_ble_eq_true rfl) rfl ?_
                  obtain rfl := Option.some.inj h
                  exact g_iret rfl dA_alike_127 hK
                · rw [if_neg c21] at h
                  refine g_if_eq_f 119 123 dA_alike_116 (by decide) rfl c21 ?_
                  refine g_iconst 120 (1 : Int32) dA_alike_119 rfl (by decide) ?_
                  refine g_goto 124 dA_alike_120 (by decide) ?_
                  refine g_cS 127 (some (.int (fA_asNumber (1 : Int32)))) q20.2 [.int (1 : Int32)] [] dA_alike_124 rfl (fun _ hK2 => mA_asNumber (d - 1) (by omega) rfl hK2) kA_88 (x_rm (Nat.le_trans (by decide) hd) (by decide)) ⟨Nat.zero_le _, Nat.zero_le _⟩ (Nat.le_of_ble_eq_true rfl) rfl ?_
                  obtain rfl := Option.some.inj h
                  exact g_iret rfl dA_alike_127 hK
            · rw [if_neg c15] at h
              have q10 := lv_neT (a := 0) c10 (by decide)
              have q12 := lv_neT (a := 1) c12 (by decide)
              have q15 := lv_neT (a := 2) c15 (by decide)
              refine g_tabOut 128 dA_alike_38 (by omega) (by decide) ?_
              refine g_aload_n 129 (i := 0) dA_alike_128 rfl rfl rfl ?_
              refine g_aload_n 130 (i := 0) dA_alike_129 rfl rfl rfl ?_
              obtain ⟨t22, e22, h⟩ := x_bind h
              refine g_cV 133 (some (.int t22)) w [] [.ref v0] dA_alike_130 rfl (fun _ hK2 => mA_allPlaces (d - 1) (by omega) e22 hK2) (x_fr_ob e6) kA_185 (x_rm (Nat.le_trans (by decide) hd) (by decide)) ⟨Nat.zero_le _, Nat.zero_le _⟩ (Nat.le_of_ble_eq_true rfl) rfl ?_
              refine g_aload_n 134 (i := 0) dA_alike_133 rfl rfl rfl ?_
              refine g_getfR 137 0 0 dA_alike_134 rfl x_in0 tw_1_115 rfl (by decide) e3 ?_
              obtain ⟨t23, e23, h⟩ := x_bind h
              refine g_getfI 140 2 2 dA_alike_137 rfl x_in2 tw_1_60 rfl (by decide) e23 ?_
              refine g_iconst 141 (-1 : Int32) dA_alike_140 rfl (by decide) ?_
              refine g_ixor 142 dA_alike_141 rfl ?_
              refine g_iand 143 dA_alike_142 rfl ?_
              refine g_aload_n 144 (i := 0) dA_alike_143 rfl rfl rfl ?_
              refine g_getfR 147 0 1 dA_alike_144 rfl x_in0 tw_1_116 rfl (by decide) e6 ?_
              obtain ⟨t24, e24, h⟩ := x_bind h
              refine g_getfI 150 2 2 dA_alike_147 rfl x_in2 tw_1_60 rfl (by decide) e24 ?_
              refine g_iconst 151 (-1 : Int32) dA_alike_150 rfl (by decide) ?_
              refine g_ixor 152 dA_alike_151 rfl ?_
              refine g_iand 153 dA_alike_152 rfl ?_
              refine g_iconst 154 (0 : Int32) dA_alike_153 rfl (by decide) ?_
              refine g_iconst 155 (0 : Int32) dA_alike_154 rfl (by decide) ?_
              obtain ⟨q25, e25, h⟩ := x_bind h
              refine g_cV 158 (some (.int q25.1)) q25.2 [.int ((t22 &&& (t23 ^^^ (-1 : Int32))) &&& (t24 ^^^ (-1 : Int32))), .int (0 : Int32), .int (0 : Int32)] [] dA_alike_155 rfl (fun _ hK2 => mA_haveSameOdds (d - 1) (by omega) e25 hK2) (x_fr_ob e6) kA_188 (x_rm (Nat.le_trans (by decide) hd) (by decide)) ⟨Nat.zero_le _, Nat.zero_le _⟩ (Nat.le_of_ble_eq_true rfl) rfl ?_
              refine g_cS 161 (some (.int (fA_asNumber q25.1))) q25.2 [.int q25.1] [] dA_alike_158 rfl (fun _ hK2 => mA_asNumber (d - 1) (by omega) rfl hK2) kA_88 (x_rm (Nat.le_trans (by decide) hd) (by decide)) ⟨Nat.zero_le _, Nat.zero_le _⟩ (Nat.le_of_ble_eq_true rfl) rfl ?_
              obtain rfl := Option.some.inj h
              exact g_iret rfl dA_alike_161 hK
      · rw [if_neg c9] at h
        refine g_icmp_eq_f 35 37 dA_alike_32 (by decide) rfl c9 ?_
        refine g_iconst 36 (0 : Int32) dA_alike_35 rfl (by decide) ?_
        obtain rfl := Option.some.inj h
        exact g_iret rfl dA_alike_36 hK
    · rw [if_neg c2] at h
      refine g_icmp_le_f 9 12 dA_alike_6 (by decide) rfl c2 ?_
      refine g_bipush 11 (-2 : Int32) dA_alike_9 rfl (by decide) ?_
      obtain rfl := Option.some.inj h
      exact g_iret rfl dA_alike_11 hK
/-! ActSurgeryModel.resetWeights(II)V: level X -/
theorem dM_resetWeights_0 : decode cM_resetWeights 0 = .ok (.iconst 0, 1) := by decide +kernel
theorem dM_resetWeights_1 : decode cM_resetWeights 1 = .ok (.istore_n 3, 1) := by decide +kernel
theorem dM_resetWeights_2 : decode cM_resetWeights 2 = .ok (.iload_n 3, 1) := by decide +kernel
theorem dM_resetWeights_3 : decode cM_resetWeights 3 = .ok (.bipush 64, 2) := by decide +kernel
theorem dM_resetWeights_5 : decode cM_resetWeights 5 = .ok (.if_icmp .ge 27, 3) := by decide +kernel
theorem dM_resetWeights_8 : decode cM_resetWeights 8 = .ok (.aload_n 0, 1) := by decide +kernel
theorem dM_resetWeights_9 : decode cM_resetWeights 9 = .ok (.getfield 16, 3) := by decide +kernel
theorem dM_resetWeights_12 : decode cM_resetWeights 12 = .ok (.bipush 6, 2) := by decide +kernel
theorem dM_resetWeights_14 : decode cM_resetWeights 14 = .ok (.iload_n 1, 1) := by decide +kernel
theorem dM_resetWeights_15 : decode cM_resetWeights 15 = .ok (.imul, 1) := by decide +kernel
theorem dM_resetWeights_16 : decode cM_resetWeights 16 = .ok (.iload_n 2, 1) := by decide +kernel
theorem dM_resetWeights_17 : decode cM_resetWeights 17 = .ok (.iadd, 1) := by decide +kernel
theorem dM_resetWeights_18 : decode cM_resetWeights 18 = .ok (.bipush 64, 2) := by decide +kernel
theorem dM_resetWeights_20 : decode cM_resetWeights 20 = .ok (.imul, 1) := by decide +kernel
theorem dM_resetWeights_21 : decode cM_resetWeights 21 = .ok (.iload_n 3, 1) := by decide +kernel
theorem dM_resetWeights_22 : decode cM_resetWeights 22 = .ok (.iadd, 1) := by decide +kernel
theorem dM_resetWeights_23 : decode cM_resetWeights 23 = .ok (.bipush 8, 2) := by decide +kernel
theorem dM_resetWeights_25 : decode cM_resetWeights 25 = .ok (.iastore, 1) := by decide +kernel
theorem dM_resetWeights_26 : decode cM_resetWeights 26 = .ok (.iinc 3 1, 3) := by decide +kernel
theorem dM_resetWeights_29 : decode cM_resetWeights 29 = .ok (.goto (-27), 3) := by decide +kernel
theorem dM_resetWeights_32 : decode cM_resetWeights 32 = .ok (.return_, 1) := by decide +kernel
theorem tw_2_237 : (Jvm.Cond.fieldLink "ActSurgeryModel" (16 : Nat) "ActSurgeryModel" "weights" "[I") ∈ x_GT := x_t2 237 rfl rfl
def fM_resetWeights_2  : Nat → x_W → Nat → Int32 → Int32 → Int32 → Option x_W
  | 0, _, _, _, _, _ => none
  | n + 1, w, v0, v1, v2, v3 =>
    if (64 : Int32) ≤ v3 then
      some w
    else
      (x_fr w v0 5 2).bind fun t2 =>
      (x_pa w t2 (((((6 : Int32) * v1) + v2) * (64 : Int32)) + v3) (8 : Int32)).bind fun w3 =>
      fM_resetWeights_2 n w3 v0 v1 v2 (v3 + (1 : Int32))
def fM_resetWeights  (w : x_W) (v0 : Nat) (v1 : Int32) (v2 : Int32) : Option x_W :=
  fM_resetWeights_2 x_F w v0 v1 v2 (0 : Int32)
set_option maxHeartbeats 4000000 in
set_option maxRecDepth 100000 in
theorem lM_resetWeights_2 (d : Nat) (hd : 1 ≤ d) {K : Option Value → x_W → Prop} {r : x_W} (hK : K none r) : ∀ (n : Nat) (w : x_W) (v0 : Nat) (v1 : Int32) (v2 : Int32) (v3 : Int32), fM_resetWeights_2 n w v0 v1 v2 v3 = some r → x_G none yM_resetWeights cM_resetWeights 4 none (x_room d 0 0) (x_QM K 0 0) 2 [some (.ref v0), some (.int v1), some (.int v2), some (.int v3)] [] w 0 0 := by
  intro n
  induction n with
  | zero => intro w v0 v1 v2 v3 h; rw [fM_resetWeights_2] at h; cases h
  | succ n ih =>
    intro w v0 v1 v2 v3 h
    rw [fM_resetWeights_2] at h
    refine g_iload_n 3 (i := 3) dM_resetWeights_2 rfl rfl rfl ?_
    refine g_bipush 5 (64 : Int32) dM_resetWeights_3 rfl (by decide) ?_
    by_cases c1 : (64 : Int32) ≤ v3
    · rw [if_pos c1] at h
      refine g_icmp_ge_t 32 dM_resetWeights_5 (by decide) c1 ?_
      obtain rfl := Option.some.inj h
      exact g_vret rfl dM_resetWeights_32 hK
    · rw [if_neg c1] at h
      refine g_icmp_ge_f 8 32 dM_resetWeights_5 (by decide) rfl c1 ?_
      refine g_aload_n 9 (i := 0) dM_resetWeights_8 rfl rfl rfl ?_
      obtain ⟨t2, e2, h⟩ := x_bind h
      refine g_getfR 12 5 2 dM_resetWeights_9 rfl x_in5 tw_2_237 rfl (by decide) e2 ?_
      refine g_bipush 14 (6 : Int32) dM_resetWeights_12 rfl (by decide) ?_
      refine g_iload_n 15 (i := 1) dM_resetWeights_14 rfl rfl rfl ?_
      refine g_imul 16 dM_resetWeights_15 rfl ?_
      refine g_iload_n 17 (i := 2) dM_resetWeights_16 rfl rfl rfl ?_
      refine g_iadd 18 dM_resetWeights_17 rfl ?_
      refine g_bipush 20 (64 : Int32) dM_resetWeights_18 rfl (by decide) ?_
      refine g_imul 21 dM_resetWeights_20 rfl ?_
      refine g_iload_n 22 (i := 3) dM_resetWeights_21 rfl rfl rfl ?_
      refine g_iadd 23 dM_resetWeights_22 rfl ?_
      refine g_bipush 25 (8 : Int32) dM_resetWeights_23 rfl (by decide) ?_
      obtain ⟨w3, e3, h⟩ := x_bind h
      refine g_iast 26 dM_resetWeights_25 rfl e3 ?_
      refine g_iinc 29 [some (.ref v0), some (.int v1), some (.int v2), some (.int (v3 + (1 : Int32)))] dM_resetWeights_26 rfl rfl (x_inc (1 : Int32) (by decide)) rfl (by decide) ?_
      refine g_goto 2 dM_resetWeights_29 (by decide) ?_
      exact ih _ _ _ _ _ h
set_option maxHeartbeats 4000000 in
set_option maxRecDepth 100000 in
theorem mM_resetWeights (d : Nat) (hd : 1 ≤ d) {K : Option Value → x_W → Prop} {w : x_W} {v0 : Nat} {v1 : Int32} {v2 : Int32} {r : x_W} (h : fM_resetWeights w v0 v1 v2 = some r) (hK : K none r) : x_M yM_resetWeights cM_resetWeights 4 none d 0 0 [.ref v0, .int v1, .int v2] w K := by
  refine x_M.of [some (.ref v0), some (.int v1), some (.int v2), none] (by decide) rfl (Nat.le_of_ble_eq_true rfl) ?_
  unfold fM_resetWeights at h
  refine g_iconst 1 (0 : Int32) dM_resetWeights_0 rfl (by decide) ?_
  refine g_istore_n 2 (i := 3) [some (.ref v0), some (.int v1), some (.int v2), some (.int (0 : Int32))] dM_resetWeights_1 rfl rfl rfl (by decide) ?_
  exact lM_resetWeights_2 d hd hK x_F _ _ _ _ _ h
/-! ActSurgeryModel.clear(II)V: level X -/
theorem dM_clear_0 : decode cM_clear 0 = .ok (.aload_n 0, 1) := by decide +kernel
theorem dM_clear_1 : decode cM_clear 1 = .ok (.getfield 7, 3) := by decide +kernel
theorem dM_clear_4 : decode cM_clear 4 = .ok (.iload_n 1, 1) := by decide +kernel
theorem dM_clear_5 : decode cM_clear 5 = .ok (.iload_n 2, 1) := by decide +kernel
theorem dM_clear_6 : decode cM_clear 6 = .ok (.iastore, 1) := by decide +kernel
theorem dM_clear_7 : decode cM_clear 7 = .ok (.aload_n 0, 1) := by decide +kernel
theorem dM_clear_8 : decode cM_clear 8 = .ok (.getfield 19, 3) := by decide +kernel
theorem dM_clear_11 : decode cM_clear 11 = .ok (.iload_n 1, 1) := by decide +kernel
theorem dM_clear_12 : decode cM_clear 12 = .ok (.iconst 0, 1) := by decide +kernel
theorem dM_clear_13 : decode cM_clear 13 = .ok (.iastore, 1) := by decide +kernel
theorem dM_clear_14 : decode cM_clear 14 = .ok (.iconst 0, 1) := by decide +kernel
theorem dM_clear_15 : decode cM_clear 15 = .ok (.istore_n 3, 1) := by decide +kernel
theorem dM_clear_16 : decode cM_clear 16 = .ok (.iload_n 3, 1) := by decide +kernel
theorem dM_clear_17 : decode cM_clear 17 = .ok (.bipush 6, 2) := by decide +kernel
theorem dM_clear_19 : decode cM_clear 19 = .ok (.if_icmp .ge 27, 3) := by decide +kernel
theorem dM_clear_22 : decode cM_clear 22 = .ok (.aload_n 0, 1) := by decide +kernel
theorem dM_clear_23 : decode cM_clear 23 = .ok (.getfield 13, 3) := by decide +kernel
theorem dM_clear_26 : decode cM_clear 26 = .ok (.bipush 6, 2) := by decide +kernel
theorem dM_clear_28 : decode cM_clear 28 = .ok (.iload_n 1, 1) := by decide +kernel
theorem dM_clear_29 : decode cM_clear 29 = .ok (.imul, 1) := by decide +kernel
theorem dM_clear_30 : decode cM_clear 30 = .ok (.iload_n 3, 1) := by decide +kernel
theorem dM_clear_31 : decode cM_clear 31 = .ok (.iadd, 1) := by decide +kernel
theorem dM_clear_32 : decode cM_clear 32 = .ok (.iconst 0, 1) := by decide +kernel
theorem dM_clear_33 : decode cM_clear 33 = .ok (.iastore, 1) := by decide +kernel
theorem dM_clear_34 : decode cM_clear 34 = .ok (.aload_n 0, 1) := by decide +kernel
theorem dM_clear_35 : decode cM_clear 35 = .ok (.iload_n 1, 1) := by decide +kernel
theorem dM_clear_36 : decode cM_clear 36 = .ok (.iload_n 3, 1) := by decide +kernel
theorem dM_clear_37 : decode cM_clear 37 = .ok (.invokevirtual 41, 3) := by decide +kernel
theorem dM_clear_40 : decode cM_clear 40 = .ok (.iinc 3 1, 3) := by decide +kernel
theorem dM_clear_43 : decode cM_clear 43 = .ok (.goto (-27), 3) := by decide +kernel
theorem dM_clear_46 : decode cM_clear 46 = .ok (.return_, 1) := by decide +kernel
theorem tw_2_236 : (Jvm.Cond.fieldLink "ActSurgeryModel" (13 : Nat) "ActSurgeryModel" "parentsOf" "[I") ∈ x_GT := x_t2 236 rfl rfl
theorem tw_2_233 : (Jvm.Cond.instanceMethod ({ cls := "ActSurgeryModel", name := "resetWeights", desc := "(II)V" } : Jvm.MethodName)) ∈ x_GT := x_t2 233 rfl rfl
theorem tws_28 : (Jvm.Cond.selects "ActSurgeryModel" ({ cls := "ActSurgeryModel", name := "resetWeights", desc := "(II)V" } : Jvm.MethodName) ({ cls := "ActSurgeryModel", name := "resetWeights", desc := "(II)V" } : Jvm.MethodName)) ∈ x_GT := x_ts 28 rfl rfl
theorem tw_2_234 : (Jvm.Cond.code ({ cls := "ActSurgeryModel", name := "resetWeights", desc := "(II)V" } : Jvm.MethodName) prog_7_method_4_code (4 : Nat) (Option.none : Option Jvm.ClassFile.FieldType)) ∈ x_GT := x_t2 234 rfl rfl
theorem tw_1_6 : (Jvm.Cond.initialized "ActSurgeryModel") ∈ x_GT := x_t1 6 rfl rfl
theorem tw_2_231 : (Jvm.Cond.methodLink "ActSurgeryModel" (41 : Nat) ({ cls := "ActSurgeryModel", name := "resetWeights", desc := "(II)V" } : Jvm.MethodName)) ∈ x_GT := x_t2 231 rfl rfl
theorem kM_41 : x_kV "ActSurgeryModel" 41 yM_resetWeights cM_resetWeights 4 none 2 5 := ⟨tw_2_233, tws_28, tw_2_234, tw_1_6, tw_2_231, (by decide +kernel), rfl⟩
theorem tw_2_235 : (Jvm.Cond.fieldLink "ActSurgeryModel" (7 : Nat) "ActSurgeryModel" "many" "[I") ∈ x_GT := x_t2 235 rfl rfl
theorem tw_2_238 : (Jvm.Cond.fieldLink "ActSurgeryModel" (19 : Nat) "ActSurgeryModel" "hidden" "[I") ∈ x_GT := x_t2 238 rfl rfl
def fM_clear_16  : Nat → x_W → Nat → Int32 → Int32 → Option x_W
  | 0, _, _, _, _ => none
  | n + 1, w, v0, v1, v3 =>
    if (6 : Int32) ≤ v3 then
      some w
    else
      (x_fr w v0 5 1).bind fun t2 =>
      (x_pa w t2 (((6 : Int32) * v1) + v3) (0 : Int32)).bind fun w3 =>
      (x_ob w3 v0 5).bind fun _ =>
      (fM_resetWeights w3 v0 v1 v3).bind fun w5 =>
      fM_clear_16 n w5 v0 v1 (v3 + (1 : Int32))
def fM_clear  (w : x_W) (v0 : Nat) (v1 : Int32) (v2 : Int32) : Option x_W :=
  (x_fr w v0 5 0).bind fun t1 =>
  (x_pa w t1 v1 v2).bind fun w2 =>
  (x_fr w2 v0 5 3).bind fun t3 =>
  (x_pa w2 t3 v1 (0 : Int32)).bind fun w4 =>
  fM_clear_16 x_F w4 v0 v1 (0 : Int32)
set_option maxHeartbeats 4000000 in
set_option maxRecDepth 100000 in
theorem lM_clear_16 (d : Nat) (hd : 2 ≤ d) {K : Option Value → x_W → Prop} {r : x_W} (hK : K none r) : ∀ (n : Nat) (w : x_W) (v0 : Nat) (v1 : Int32) (v3 : Int32), fM_clear_16 n w v0 v1 v3 = some r → x_G none yM_clear cM_clear 4 none (x_room d 0 0) (x_QM K 0 0) 16 [some (.ref v0), some (.int v1), none, some (.int v3)] [] w 0 0 := by
  intro n
  induction n with
  | zero => intro w v0 v1 v3 h; rw [fM_clear_16] at h; cases h
  | succ n ih =>
    intro w v0 v1 v3 h
    rw [fM_clear_16] at h
    refine g_iload_n 17 (i := 3) dM_clear_16 rfl rfl rfl ?_
    refine g_bipush 19 (6 : Int32) dM_clear_17 rfl (by decide) ?_
    by_cases c1 : (6 : Int32) ≤ v3
    · rw [if_pos c1] at h
      refine g_icmp_ge_t 46 dM_clear_19 (by decide) c1 ?_
      obtain rfl := Option.some.inj h
      exact g_vret rfl dM_clear_46 hK
    · rw [if_neg c1] at h
      refine g_icmp_ge_f 22 46 dM_clear_19 (by decide) rfl c1 ?_
      refine g_aload_n 23 (i := 0) dM_clear_22 rfl rfl rfl ?_
      obtain ⟨t2, e2, h⟩ := x_bind h
      refine g_getfR 26 5 1 dM_clear_23 rfl x_in5 tw_2_236 rfl (by decide) e2 ?_
      refine g_bipush 28 (6 : Int32) dM_clear_26 rfl (by decide) ?_
      refine g_iload_n 29 (i := 1) dM_clear_28 rfl rfl rfl ?_
      refine g_imul 30 dM_clear_29 rfl ?_
      refine g_iload_n 31 (i := 3) dM_clear_30 rfl rfl rfl ?_
      refine g_iadd 32 dM_clear_31 rfl ?_
      refine g_iconst 33 (0 : Int32) dM_clear_32 rfl (by decide) ?_
      obtain ⟨w3, e3, h⟩ := x_bind h
      refine g_iast 34 dM_clear_33 rfl e3 ?_
      refine g_aload_n 35 (i := 0) dM_clear_34 rfl rfl rfl ?_
      refine g_iload_n 36 (i := 1) dM_clear_35 rfl rfl rfl ?_
      refine g_iload_n 37 (i := 3) dM_clear_36 rfl rfl rfl ?_
      obtain ⟨_, e4, h⟩ := x_bind h
      obtain ⟨w5, e5, h⟩ := x_bind h
      refine g_cV 40 none w5 [.int v1, .int v3] [] dM_clear_37 rfl (fun _ hK2 => mM_resetWeights (d - 1) (by omega) e5 hK2) (x_ob_some e4) kM_41 (x_rm (Nat.le_trans (by decide) hd) (by decide)) ⟨Nat.zero_le _, Nat.zero_le _⟩ (Nat.le_of_ble_eq_true rfl) rfl ?_
      refine g_iinc 43 [some (.ref v0), some (.int v1), none, some (.int (v3 + (1 : Int32)))] dM_clear_40 rfl rfl (x_inc (1 : Int32) (by decide)) rfl (by decide) ?_
      refine g_goto 16 dM_clear_43 (by decide) ?_
      exact ih _ _ _ _ h
set_option maxHeartbeats 4000000 in
set_option maxRecDepth 100000 in
theorem mM_clear (d : Nat) (hd : 2 ≤ d) {K : Option Value → x_W → Prop} {w : x_W} {v0 : Nat} {v1 : Int32} {v2 : Int32} {r : x_W} (h : fM_clear w v0 v1 v2 = some r) (hK : K none r) : x_M yM_clear cM_clear 4 none d 0 0 [.ref v0, .int v1, .int v2] w K := by
  refine x_M.of [some (.ref v0), some (.int v1), some (.int v2), none] (by decide) rfl (Nat.le_of_ble_eq_true rfl) ?_
  unfold fM_clear at h
  refine g_aload_n 1 (i := 0) dM_clear_0 rfl rfl rfl ?_
  obtain ⟨t1, e1, h⟩ := x_bind h
  refine g_getfR 4 5 0 dM_clear_1 rfl x_in5 tw_2_235 rfl (by decide) e1 ?_
  refine g_iload_n 5 (i := 1) dM_clear_4 rfl rfl rfl ?_
  refine g_iload_n 6 (i := 2) dM_clear_5 rfl rfl rfl ?_
  obtain ⟨w2, e2, h⟩ := x_bind h
  refine g_iast 7 dM_clear_6 rfl e2 ?_
  refine g_aload_n 8 (i := 0) dM_clear_7 rfl rfl rfl ?_
  obtain ⟨t3, e3, h⟩ := x_bind h
  refine g_getfR 11 5 3 dM_clear_8 rfl x_in5 tw_2_238 rfl (by decide) e3 ?_
  refine g_iload_n 12 (i := 1) dM_clear_11 rfl rfl rfl ?_
  refine g_iconst 13 (0 : Int32) dM_clear_12 rfl (by decide) ?_
  obtain ⟨w4, e4, h⟩ := x_bind h
  refine g_iast 14 dM_clear_13 rfl e4 ?_
  refine g_iconst 15 (0 : Int32) dM_clear_14 rfl (by decide) ?_
  refine g_istore_n 16 (i := 3) [some (.ref v0), some (.int v1), some (.int v2), some (.int (0 : Int32))] dM_clear_15 rfl rfl rfl (by decide) ?_
  refine g_less [some (.ref v0), some (.int v1), none, some (.int (0 : Int32))] ⟨rfl, rfl, rfl, trivial⟩ ?_
  exact lM_clear_16 d hd hK x_F _ _ _ _ h
/-! ActSurgeryModel.<init>()V: level X -/
theorem dM_init_0 : decode cM_init 0 = .ok (.aload_n 0, 1) := by decide +kernel
theorem dM_init_1 : decode cM_init 1 = .ok (.invokespecial 1, 3) := by decide +kernel
theorem dM_init_4 : decode cM_init 4 = .ok (.aload_n 0, 1) := by decide +kernel
theorem dM_init_5 : decode cM_init 5 = .ok (.iconst 2, 1) := by decide +kernel
theorem dM_init_6 : decode cM_init 6 = .ok (.newarray .int, 2) := by decide +kernel
theorem dM_init_8 : decode cM_init 8 = .ok (.putfield 7, 3) := by decide +kernel
theorem dM_init_11 : decode cM_init 11 = .ok (.aload_n 0, 1) := by decide +kernel
theorem dM_init_12 : decode cM_init 12 = .ok (.bipush 12, 2) := by decide +kernel
theorem dM_init_14 : decode cM_init 14 = .ok (.newarray .int, 2) := by decide +kernel
theorem dM_init_16 : decode cM_init 16 = .ok (.putfield 13, 3) := by decide +kernel
theorem dM_init_19 : decode cM_init 19 = .ok (.aload_n 0, 1) := by decide +kernel
theorem dM_init_20 : decode cM_init 20 = .ok (.sipush 768, 3) := by decide +kernel
theorem dM_init_23 : decode cM_init 23 = .ok (.newarray .int, 2) := by decide +kernel
theorem dM_init_25 : decode cM_init 25 = .ok (.putfield 16, 3) := by decide +kernel
theorem dM_init_28 : decode cM_init 28 = .ok (.aload_n 0, 1) := by decide +kernel
theorem dM_init_29 : decode cM_init 29 = .ok (.iconst 2, 1) := by decide +kernel
theorem dM_init_30 : decode cM_init 30 = .ok (.newarray .int, 2) := by decide +kernel
theorem dM_init_32 : decode cM_init 32 = .ok (.putfield 19, 3) := by decide +kernel
theorem dM_init_35 : decode cM_init 35 = .ok (.aload_n 0, 1) := by decide +kernel
theorem dM_init_36 : decode cM_init 36 = .ok (.bipush 6, 2) := by decide +kernel
theorem dM_init_38 : decode cM_init 38 = .ok (.newarray .int, 2) := by decide +kernel
theorem dM_init_40 : decode cM_init 40 = .ok (.putfield 22, 3) := by decide +kernel
theorem dM_init_43 : decode cM_init 43 = .ok (.aload_n 0, 1) := by decide +kernel
theorem dM_init_44 : decode cM_init 44 = .ok (.bipush 15, 2) := by decide +kernel
theorem dM_init_46 : decode cM_init 46 = .ok (.newarray .int, 2) := by decide +kernel
theorem dM_init_48 : decode cM_init 48 = .ok (.putfield 25, 3) := by decide +kernel
theorem dM_init_51 : decode cM_init 51 = .ok (.aload_n 0, 1) := by decide +kernel
theorem dM_init_52 : decode cM_init 52 = .ok (.bipush 15, 2) := by decide +kernel
theorem dM_init_54 : decode cM_init 54 = .ok (.newarray .int, 2) := by decide +kernel
theorem dM_init_56 : decode cM_init 56 = .ok (.putfield 28, 3) := by decide +kernel
theorem dM_init_59 : decode cM_init 59 = .ok (.aload_n 0, 1) := by decide +kernel
theorem dM_init_60 : decode cM_init 60 = .ok (.bipush 6, 2) := by decide +kernel
theorem dM_init_62 : decode cM_init 62 = .ok (.newarray .int, 2) := by decide +kernel
theorem dM_init_64 : decode cM_init 64 = .ok (.putfield 31, 3) := by decide +kernel
theorem dM_init_67 : decode cM_init 67 = .ok (.aload_n 0, 1) := by decide +kernel
theorem dM_init_68 : decode cM_init 68 = .ok (.bipush 6, 2) := by decide +kernel
theorem dM_init_70 : decode cM_init 70 = .ok (.newarray .int, 2) := by decide +kernel
theorem dM_init_72 : decode cM_init 72 = .ok (.putfield 34, 3) := by decide +kernel
theorem dM_init_75 : decode cM_init 75 = .ok (.aload_n 0, 1) := by decide +kernel
theorem dM_init_76 : decode cM_init 76 = .ok (.iconst 0, 1) := by decide +kernel
theorem dM_init_77 : decode cM_init 77 = .ok (.iconst 1, 1) := by decide +kernel
theorem dM_init_78 : decode cM_init 78 = .ok (.invokevirtual 37, 3) := by decide +kernel
theorem dM_init_81 : decode cM_init 81 = .ok (.aload_n 0, 1) := by decide +kernel
theorem dM_init_82 : decode cM_init 82 = .ok (.iconst 1, 1) := by decide +kernel
theorem dM_init_83 : decode cM_init 83 = .ok (.iconst 1, 1) := by decide +kernel
theorem dM_init_84 : decode cM_init 84 = .ok (.invokevirtual 37, 3) := by decide +kernel
theorem dM_init_87 : decode cM_init 87 = .ok (.return_, 1) := by decide +kernel
theorem tw_2_226 : (Jvm.Cond.methodLink "ActSurgeryModel" (1 : Nat) ({ cls := "java/lang/Object", name := "<init>", desc := "()V" } : Jvm.MethodName)) ∈ x_GT := x_t2 226 rfl rfl
theorem tw_3_0 : (Jvm.Cond.fieldLink "ActSurgeryModel" (22 : Nat) "ActSurgeryModel" "way" "[I") ∈ x_GT := x_t3 0 rfl rfl
theorem tw_3_1 : (Jvm.Cond.fieldLink "ActSurgeryModel" (25 : Nat) "ActSurgeryModel" "pairA" "[I") ∈ x_GT := x_t3 1 rfl rfl
theorem tw_3_2 : (Jvm.Cond.fieldLink "ActSurgeryModel" (28 : Nat) "ActSurgeryModel" "pairB" "[I") ∈ x_GT := x_t3 2 rfl rfl
theorem tw_3_4 : (Jvm.Cond.fieldLink "ActSurgeryModel" (31 : Nat) "ActSurgeryModel" "from" "[I") ∈ x_GT := x_t3 4 rfl rfl
theorem tw_3_5 : (Jvm.Cond.fieldLink "ActSurgeryModel" (34 : Nat) "ActSurgeryModel" "sure" "[I") ∈ x_GT := x_t3 5 rfl rfl
theorem tw_2_229 : (Jvm.Cond.instanceMethod ({ cls := "ActSurgeryModel", name := "clear", desc := "(II)V" } : Jvm.MethodName)) ∈ x_GT := x_t2 229 rfl rfl
theorem tws_27 : (Jvm.Cond.selects "ActSurgeryModel" ({ cls := "ActSurgeryModel", name := "clear", desc := "(II)V" } : Jvm.MethodName) ({ cls := "ActSurgeryModel", name := "clear", desc := "(II)V" } : Jvm.MethodName)) ∈ x_GT := x_ts 27 rfl rfl
theorem tw_2_230 : (Jvm.Cond.code ({ cls := "ActSurgeryModel", name := "clear", desc := "(II)V" } : Jvm.MethodName) prog_7_method_3_code (4 : Nat) (Option.none : Option Jvm.ClassFile.FieldType)) ∈ x_GT := x_t2 230 rfl rfl
theorem tw_2_227 : (Jvm.Cond.methodLink "ActSurgeryModel" (37 : Nat) ({ cls := "ActSurgeryModel", name := "clear", desc := "(II)V" } : Jvm.MethodName)) ∈ x_GT := x_t2 227 rfl rfl
theorem kM_37 : x_kV "ActSurgeryModel" 37 yM_clear cM_clear 4 none 2 5 := ⟨tw_2_229, tws_27, tw_2_230, tw_1_6, tw_2_227, (by decide +kernel), rfl⟩
def fM_init  (w : x_W) (v0 : Nat) : Option x_W :=
  (x_pf (w ++ [.inl (2, fun _ => 0)]) v0 5 0 (.ref w.length)).bind fun w2 =>
  (x_pf (w2 ++ [.inl (12, fun _ => 0)]) v0 5 1 (.ref w2.length)).bind fun w4 =>
  (x_pf (w4 ++ [.inl (768, fun _ => 0)]) v0 5 2 (.ref w4.length)).bind fun w6 =>
  (x_pf (w6 ++ [.inl (2, fun _ => 0)]) v0 5 3 (.ref w6.length)).bind fun w8 =>
  (x_pf (w8 ++ [.inl (6, fun _ => 0)]) v0 5 5 (.ref w8.length)).bind fun w10 =>
  (x_pf (w10 ++ [.inl (15, fun _ => 0)]) v0 5 6 (.ref w10.length)).bind fun w12 =>
  (x_pf (w12 ++ [.inl (15, fun _ => 0)]) v0 5 7 (.ref w12.length)).bind fun w14 =>
  (x_pf (w14 ++ [.inl (6, fun _ => 0)]) v0 5 9 (.ref w14.length)).bind fun w16 =>
  (x_pf (w16 ++ [.inl (6, fun _ => 0)]) v0 5 10 (.ref w16.length)).bind fun w18 =>
  (x_ob w18 v0 5).bind fun _ =>
  (fM_clear w18 v0 (0 : Int32) (1 : Int32)).bind fun w20 =>
  (x_ob w20 v0 5).bind fun _ =>
  (fM_clear w20 v0 (1 : Int32) (1 : Int32)).bind fun w22 =>
  some w22
set_option maxHeartbeats 4000000 in
set_option maxRecDepth 100000 in
theorem mM_init (d : Nat) (hd : 3 ≤ d) {K : Option Value → x_W → Prop} {w : x_W} {v0 : Nat} {r : x_W} (h : fM_init w v0 = some r) (hK : K none r) : x_M yM_init cM_init 1 none d 9 832 [.ref v0] w K := by
  refine x_M.of [some (.ref v0)] (by decide) rfl (Nat.le_of_ble_eq_true rfl) ?_
  unfold fM_init at h
  refine g_aload_n 1 (i := 0) dM_init_0 rfl rfl rfl ?_
  refine g_objInit 4 dM_init_1 rfl tw_2_226 tw_1_16 tw_1_17 (x_r1 (Nat.le_trans (by decide) hd)) (x_r60 (Nat.le_trans (by decide) hd)) (Nat.le_of_ble_eq_true rfl) ?_
  refine g_aload_n 5 (i := 0) dM_init_4 rfl rfl rfl ?_
  refine g_iconst 6 (2 : Int32) dM_init_5 rfl (by decide) ?_
  refine g_newa 8 2 dM_init_6 rfl x_arr (by decide) (by decide) (by decide) (Nat.le_of_ble_eq_true rfl) (Nat.le_of_ble_eq_true rfl) ?_
  obtain ⟨w2, e2, h⟩ := x_bind h
  refine g_putfF 11 5 0 xy5 xy5_ok xn5 dM_init_8 rfl x_in5 tw_2_235 rfl (by decide) rfl rfl rfl (fun _ _ => ⟨rfl, rfl⟩) e2 ?_
  refine g_aload_n 12 (i := 0) dM_init_11 rfl rfl rfl ?_
  refine g_bipush 14 (12 : Int32) dM_init_12 rfl (by decide) ?_
  refine g_newa 16 12 dM_init_14 rfl x_arr (by decide) (by decide) (by decide) (Nat.le_of_ble_eq_true rfl) (Nat.le_of_ble_eq_true rfl) ?_
  obtain ⟨w4, e4, h⟩ := x_bind h
  refine g_putfF 19 5 1 xy5 xy5_ok xn5 dM_init_16 rfl x_in5 tw_2_236 rfl (by decide) rfl rfl rfl (fun _ _ => ⟨rfl, rfl⟩) e4 ?_
  refine g_aload_n 20 (i := 0) dM_init_19 rfl rfl rfl ?_
  refine g_sipush 23 (768 : Int32) dM_init_20 rfl (by decide) ?_
  refine g_newa 25 768 dM_init_23 rfl x_arr (by decide) (by decide) (by decide) (Nat.le_of_ble_eq_true rfl) (Nat.le_of_ble_eq_true rfl) ?_
  obtain ⟨w6, e6, h⟩ := x_bind h
  refine g_putfF 28 5 2 xy5 xy5_ok xn5 dM_init_25 rfl x_in5 tw_2_237 rfl (by decide) rfl rfl rfl (fun _ _ => ⟨rfl, rfl⟩) e6 ?_
  refine g_aload_n 29 (i := 0) dM_init_28 rfl rfl rfl ?_
  refine g_iconst 30 (2 : Int32) dM_init_29 rfl (by decide) ?_
  refine g_newa 32 2 dM_init_30 rfl x_arr (by decide) (by decide) (by decide) (Nat.le_of_ble_eq_true rfl) (Nat.le_of_ble_eq_true rfl) ?_
  obtain ⟨w8, e8, h⟩ := x_bind h
  refine g_putfF 35 5 3 xy5 xy5_ok xn5 dM_init_32 rfl x_in5 tw_2_238 rfl (by decide) rfl rfl rfl (fun _ _ => ⟨rfl, rfl⟩) e8 ?_
  refine g_aload_n 36 (i := 0) dM_init_35 rfl rfl rfl ?_
  refine g_bipush 38 (6 : Int32) dM_init_36 rfl (by decide) ?_
  refine g_newa 40 6 dM_init_38 rfl x_arr (by decide) (by decide) (by decide) (Nat.le_of_ble_eq_true rfl) (Nat.le_of_ble_eq_true rfl) ?_
  obtain ⟨w10, e10, h⟩ := x_bind h
  refine g_putfF 43 5 5 xy5 xy5_ok xn5 dM_init_40 rfl x_in5 tw_3_0 rfl (by decide) rfl rfl rfl (fun _ _ => ⟨rfl, rfl⟩) e10 ?_
  refine g_aload_n 44 (i := 0) dM_init_43 rfl rfl rfl ?_
  refine g_bipush 46 (15 : Int32) dM_init_44 rfl (by decide) ?_
  refine g_newa 48 15 dM_init_46 rfl x_arr (by decide) (by decide) (by decide) (Nat.le_of_ble_eq_true rfl) (Nat.le_of_ble_eq_true rfl) ?_
  obtain ⟨w12, e12, h⟩ := x_bind h
  refine g_putfF 51 5 6 xy5 xy5_ok xn5 dM_init_48 rfl x_in5 tw_3_1 rfl (by decide) rfl rfl rfl (fun _ _ => ⟨rfl, rfl⟩) e12 ?_
  refine g_aload_n 52 (i := 0) dM_init_51 rfl rfl rfl ?_
  refine g_bipush 54 (15 : Int32) dM_init_52 rfl (by decide) ?_
  refine g_newa 56 15 dM_init_54 rfl x_arr (by decide) (by decide) (by decide) (Nat.le_of_ble_eq_true rfl) (Nat.le_of_ble_eq_true rfl) ?_
  obtain ⟨w14, e14, h⟩ := x_bind h
  refine g_putfF 59 5 7 xy5 xy5_ok xn5 dM_init_56 rfl x_in5 tw_3_2 rfl (by decide) rfl rfl rfl (fun _ _ => ⟨rfl, rfl⟩) e14 ?_
  refine g_aload_n 60 (i := 0) dM_init_59 rfl rfl rfl ?_
  refine g_bipush 62 (6 : Int32) dM_init_60 rfl (by decide) ?_
  refine g_newa 64 6 dM_init_62 rfl x_arr (by decide) (by decide) (by decide) (Nat.le_of_ble_eq_true rfl) (Nat.le_of_ble_eq_true rfl) ?_
  obtain ⟨w16, e16, h⟩ := x_bind h
  refine g_putfF 67 5 9 xy5 xy5_ok xn5 dM_init_64 rfl x_in5 tw_3_4 rfl (by decide) rfl rfl rfl (fun _ _ => ⟨rfl, rfl⟩) e16 ?_
  refine g_aload_n 68 (i := 0) dM_init_67 rfl rfl rfl ?_
  refine g_bipush 70 (6 : Int32) dM_init_68 rfl (by decide) ?_
  refine g_newa 72 6 dM_init_70 rfl x_arr (by decide) (by decide) (by decide) (Nat.le_of_ble_eq_true rfl) (Nat.le_of_ble_eq_true rfl) ?_
  obtain ⟨w18, e18, h⟩ := x_bind h
  refine g_putfF 75 5 10 xy5 xy5_ok xn5 dM_init_72 rfl x_in5 tw_3_5 rfl (by decide) rfl rfl rfl (fun _ _ => ⟨rfl, rfl⟩) e18 ?_
  refine g_aload_n 76 (i := 0) dM_init_75 rfl rfl rfl ?_
  refine g_iconst 77 (0 : Int32) dM_init_76 rfl (by decide) ?_
  refine g_iconst 78 (1 : Int32) dM_init_77 rfl (by decide) ?_
  obtain ⟨_, e19, h⟩ := x_bind h
  obtain ⟨w20, e20, h⟩ := x_bind h
  refine g_cV 81 none w20 [.int (0 : Int32), .int (1 : Int32)] [] dM_init_78 rfl (fun _ hK2 => mM_clear (d - 1) (by omega) e20 hK2) (x_ob_some e19) kM_37 (x_rm (Nat.le_trans (by decide) hd) (by decide)) ⟨Nat.le_of_ble_eq_true rfl, Nat.le_of_ble_eq_true rfl⟩ (Nat.le_of_ble_eq_true rfl) rfl ?_
  refine g_aload_n 82 (i := 0) dM_init_81 rfl rfl rfl ?_
  refine g_iconst 83 (1 : Int32) dM_init_82 rfl (by decide) ?_
  refine g_iconst 84 (1 : Int32) dM_init_83 rfl (by decide) ?_
  obtain ⟨_, e21, h⟩ := x_bind h
  obtain ⟨w22, e22, h⟩ := x_bind h
  refine g_cV 87 none w22 [.int (1 : Int32), .int (1 : Int32)] [] dM_init_84 rfl (fun _ hK2 => mM_clear (d - 1) (by omega) e22 hK2) (x_ob_some e21) kM_37 (x_rm (Nat.le_trans (by decide) hd) (by decide)) ⟨Nat.le_of_ble_eq_true rfl, Nat.le_of_ble_eq_true rfl⟩ (Nat.le_of_ble_eq_true rfl) rfl ?_
  obtain rfl := Option.some.inj h
  exact g_vret rfl dM_init_87 hK
/-! ActSurgeryModel.isIn(III)Z: level T -/
theorem dM_isIn_0 : decode cM_isIn 0 = .ok (.iload_n 0, 1) := by decide +kernel
theorem dM_isIn_1 : decode cM_isIn 1 = .ok (.iload_n 1, 1) := by decide +kernel
theorem dM_isIn_2 : decode cM_isIn 2 = .ok (.if_icmp .lt 12, 3) := by decide +kernel
theorem dM_isIn_5 : decode cM_isIn 5 = .ok (.iload_n 0, 1) := by decide +kernel
theorem dM_isIn_6 : decode cM_isIn 6 = .ok (.iload_n 2, 1) := by decide +kernel
theorem dM_isIn_7 : decode cM_isIn 7 = .ok (.if_icmp .gt 7, 3) := by decide +kernel
theorem dM_isIn_10 : decode cM_isIn 10 = .ok (.iconst 1, 1) := by decide +kernel
theorem dM_isIn_11 : decode cM_isIn 11 = .ok (.goto 4, 3) := by decide +kernel
theorem dM_isIn_14 : decode cM_isIn 14 = .ok (.iconst 0, 1) := by decide +kernel
theorem dM_isIn_15 : decode cM_isIn 15 = .ok (.ireturn, 1) := by decide +kernel
def fM_isIn  (v0 : Int32) (v1 : Int32) (v2 : Int32) : Int32 :=
  if v0 < v1 then
    (0 : Int32)
  else
    if v2 < v0 then
      (0 : Int32)
    else
      (1 : Int32)
set_option maxHeartbeats 4000000 in
set_option maxRecDepth 100000 in
theorem mM_isIn (d : Nat) (hd : 1 ≤ d) {K : Option Value → x_W → Prop} {w : x_W} {v0 : Int32} {v1 : Int32} {v2 : Int32} {r : Int32} (h : fM_isIn v0 v1 v2 = r) (hK : K (some (.int r)) w) : x_M yM_isIn cM_isIn 3 (some .boolean) d 0 0 [.int v0, .int v1, .int v2] w K := by
  refine x_M.of [some (.int v0), some (.int v1), some (.int v2)] (by decide) rfl (Nat.le_of_ble_eq_true rfl) ?_
  unfold fM_isIn at h
  refine g_iload_n 1 (i := 0) dM_isIn_0 rfl rfl rfl ?_
  refine g_iload_n 2 (i := 1) dM_isIn_1 rfl rfl rfl ?_
  by_cases c1 : v0 < v1
  · rw [if_pos c1] at h
    refine g_icmp_lt_t 14 dM_isIn_2 (by decide) c1 ?_
    refine g_iconst 15 (0 : Int32) dM_isIn_14 rfl (by decide) ?_
    subst h
    exact g_zret rfl (by decide) dM_isIn_15 hK
  · rw [if_neg c1] at h
    refine g_icmp_lt_f 5 14 dM_isIn_2 (by decide) rfl c1 ?_
    refine g_iload_n 6 (i := 0) dM_isIn_5 rfl rfl rfl ?_
    refine g_iload_n 7 (i := 2) dM_isIn_6 rfl rfl rfl ?_
    by_cases c2 : v2 < v0
    · rw [if_pos c2] at h
      refine g_icmp_gt_t 14 dM_isIn_7 (by decide) c2 ?_
      refine g_iconst 15 (0 : Int32) dM_isIn_14 rfl (by decide) ?_
      subst h
      exact g_zret rfl (by decide) dM_isIn_15 hK
    · rw [if_neg c2] at h
      refine g_icmp_gt_f 10 14 dM_isIn_7 (by decide) rfl c2 ?_
      refine g_iconst 11 (1 : Int32) dM_isIn_10 rfl (by decide) ?_
      refine g_goto 15 dM_isIn_11 (by decide) ?_
      subst h
      exact g_zret rfl (by decide) dM_isIn_15 hK
/-! ActSurgeryModel.n()I: level P -/
theorem dM_n_0 : decode cM_n 0 = .ok (.aload_n 0, 1) := by decide +kernel
theorem dM_n_1 : decode cM_n 1 = .ok (.getfield 7, 3) := by decide +kernel
theorem dM_n_4 : decode cM_n 4 = .ok (.iconst 0, 1) := by decide +kernel
theorem dM_n_5 : decode cM_n 5 = .ok (.iaload, 1) := by decide +kernel
theorem dM_n_6 : decode cM_n 6 = .ok (.ireturn, 1) := by decide +kernel
def fM_n (w : x_W) (v0 : Nat) : Option Int32 :=
  (x_fr w v0 5 0).bind fun t1 =>
  (x_ai w t1 (0 : Int32)).bind fun t2 =>
  some t2
set_option maxHeartbeats 4000000 in
set_option maxRecDepth 100000 in
theorem mM_n (d : Nat) (hd : 1 ≤ d) {K : Option Value → x_W → Prop} {w : x_W} {v0 : Nat} {r : Int32} (h : fM_n w v0 = some r) (hK : K (some (.int r)) w) : x_M yM_n cM_n 1 (some .int) d 0 0 [.ref v0] w K := by
  refine x_M.of [some (.ref v0)] (by decide) rfl (Nat.le_of_ble_eq_true rfl) ?_
  unfold fM_n at h
  refine g_aload_n 1 (i := 0) dM_n_0 rfl rfl rfl ?_
  obtain ⟨t1, e1, h⟩ := x_bind h
  refine g_getfR 4 5 0 dM_n_1 rfl x_in5 tw_2_235 rfl (by decide) e1 ?_
  refine g_iconst 5 (0 : Int32) dM_n_4 rfl (by decide) ?_
  obtain ⟨t2, e2, h⟩ := x_bind h
  refine g_iald 6 dM_n_5 rfl e2 ?_
  obtain rfl := Option.some.inj h
  exact g_iret rfl dM_n_6 hK
/-! ActSurgeryModel.isPlace(I)Z: level P -/
theorem dM_isPlace_0 : decode cM_isPlace 0 = .ok (.iload_n 1, 1) := by decide +kernel
theorem dM_isPlace_1 : decode cM_isPlace 1 = .ok (.iconst 0, 1) := by decide +kernel
theorem dM_isPlace_2 : decode cM_isPlace 2 = .ok (.aload_n 0, 1) := by decide +kernel
theorem dM_isPlace_3 : decode cM_isPlace 3 = .ok (.invokevirtual 44, 3) := by decide +kernel
theorem dM_isPlace_6 : decode cM_isPlace 6 = .ok (.iconst 1, 1) := by decide +kernel
theorem dM_isPlace_7 : decode cM_isPlace 7 = .ok (.isub, 1) := by decide +kernel
theorem dM_isPlace_8 : decode cM_isPlace 8 = .ok (.invokestatic 48, 3) := by decide +kernel
theorem dM_isPlace_11 : decode cM_isPlace 11 = .ok (.ireturn, 1) := by decide +kernel
theorem tw_3_41 : (Jvm.Cond.instanceMethod ({ cls := "ActSurgeryModel", name := "n", desc := "()I" } : Jvm.MethodName)) ∈ x_GT := x_t3 41 rfl rfl
theorem tws_29 : (Jvm.Cond.selects "ActSurgeryModel" ({ cls := "ActSurgeryModel", name := "n", desc := "()I" } : Jvm.MethodName) ({ cls := "ActSurgeryModel", name := "n", desc := "()I" } : Jvm.MethodName)) ∈ x_GT := x_ts 29 rfl rfl
theorem tw_3_42 : (Jvm.Cond.code ({ cls := "ActSurgeryModel", name := "n", desc := "()I" } : Jvm.MethodName) prog_7_method_5_code (1 : Nat) (Option.some Jvm.ClassFile.FieldType.int)) ∈ x_GT := x_t3 42 rfl rfl
theorem tw_3_39 : (Jvm.Cond.methodLink "ActSurgeryModel" (44 : Nat) ({ cls := "ActSurgeryModel", name := "n", desc := "()I" } : Jvm.MethodName)) ∈ x_GT := x_t3 39 rfl rfl
theorem kM_44 : x_kV "ActSurgeryModel" 44 yM_n cM_n 1 (some .int) 0 5 := ⟨tw_3_41, tws_29, tw_3_42, tw_1_6, tw_3_39, (by decide +kernel), rfl⟩
theorem tw_3_37 : (Jvm.Cond.static ({ cls := "ActSurgeryModel", name := "isIn", desc := "(III)Z" } : Jvm.MethodName)) ∈ x_GT := x_t3 37 rfl rfl
theorem tw_3_38 : (Jvm.Cond.code ({ cls := "ActSurgeryModel", name := "isIn", desc := "(III)Z" } : Jvm.MethodName) prog_7_method_2_code (3 : Nat) (Option.some Jvm.ClassFile.FieldType.boolean)) ∈ x_GT := x_t3 38 rfl rfl
theorem tw_3_36 : (Jvm.Cond.methodLink "ActSurgeryModel" (48 : Nat) ({ cls := "ActSurgeryModel", name := "isIn", desc := "(III)Z" } : Jvm.MethodName)) ∈ x_GT := x_t3 36 rfl rfl
theorem kM_48 : x_kS "ActSurgeryModel" 48 yM_isIn cM_isIn 3 (some .boolean) 3 := ⟨tw_3_37, tw_3_38, tw_1_6, tw_3_36, (by decide +kernel)⟩
def fM_isPlace (w : x_W) (v0 : Nat) (v1 : Int32) : Option Int32 :=
  (x_ob w v0 5).bind fun _ =>
  (fM_n w v0).bind fun t2 =>
  if (fM_isIn v1 (0 : Int32) (t2 - (1 : Int32))) = 0 ∨ (fM_isIn v1 (0 : Int32) (t2 - (1 : Int32))) = 1 then some (fM_isIn v1 (0 : Int32) (t2 - (1 : Int32))) else none
set_option maxHeartbeats 4000000 in
set_option maxRecDepth 100000 in
theorem mM_isPlace (d : Nat) (hd : 2 ≤ d) {K : Option Value → x_W → Prop} {w : x_W} {v0 : Nat} {v1 : Int32} {r : Int32} (h : fM_isPlace w v0 v1 = some r) (hK : K (some (.int r)) w) : x_M yM_isPlace cM_isPlace 2 (some .boolean) d 0 0 [.ref v0, .int v1] w K := by
  refine x_M.of [some (.ref v0), some (.int v1)] (by decide) rfl (Nat.le_of_ble_eq_true rfl) ?_
  unfold fM_isPlace at h
  refine g_iload_n 1 (i := 1) dM_isPlace_0 rfl rfl rfl ?_
  refine g_iconst 2 (0 : Int32) dM_isPlace_1 rfl (by decide) ?_
  refine g_aload_n 3 (i := 0) dM_isPlace_2 rfl rfl rfl ?_
  obtain ⟨_, e1, h⟩ := x_bind h
  obtain ⟨t2, e2, h⟩ := x_bind h
  refine g_cV 6 (some (.int t2)) w [] [.int (0 : Int32), .int v1] dM_isPlace_3 rfl (fun _ hK2 => mM_n (d - 1) (by omega) e2 hK2) (x_ob_some e1) kM_44 (x_rm (Nat.le_trans (by decide) hd) (by decide)) ⟨Nat.zero_le _, Nat.zero_le _⟩ (Nat.le_of_ble_eq_true rfl) rfl ?_
  refine g_iconst 7 (1 : Int32) dM_isPlace_6 rfl (by decide) ?_
  refine g_isub 8 dM_isPlace_7 rfl ?_
  refine g_cS 11 (some (.int (fM_isIn v1 (0 : Int32) (t2 - (1 : Int32))))) w [.int v1, .int (0 : Int32), .int (t2 - (1 : Int32))] [] dM_isPlace_8 rfl (fun _ hK2 => mM_isIn (d - 1) (by omega) rfl hK2) kM_48 (x_rm (Nat.le_trans (by decide) hd) (by decide)) ⟨Nat.zero_le _, Nat.zero_le _⟩ (Nat.le_of_ble_eq_true rfl) rfl ?_
  have c3 : (fM_isIn v1 (0 : Int32) (t2 - (1 : Int32))) = 0 ∨ (fM_isIn v1 (0 : Int32) (t2 - (1 : Int32))) = 1 := by
    by_cases c : (fM_isIn v1 (0 : Int32) (t2 - (1 : Int32))) = 0 ∨ (fM_isIn v1 (0 : Int32) (t2 - (1 : Int32))) = 1
    · exact c
    · rw [if_neg c] at h; cases h
  rw [if_pos c3] at h
  obtain rfl := Option.some.inj h
  exact g_zret rfl c3 dM_isPlace_11 hK
/-! ActSurgeryModel.all()I: level P -/
theorem dM_all_0 : decode cM_all 0 = .ok (.iconst 1, 1) := by decide +kernel
theorem dM_all_1 : decode cM_all 1 = .ok (.aload_n 0, 1) := by decide +kernel
theorem dM_all_2 : decode cM_all 2 = .ok (.invokevirtual 44, 3) := by decide +kernel
theorem dM_all_5 : decode cM_all 5 = .ok (.ishl, 1) := by decide +kernel
theorem dM_all_6 : decode cM_all 6 = .ok (.iconst 1, 1) := by decide +kernel
theorem dM_all_7 : decode cM_all 7 = .ok (.isub, 1) := by decide +kernel
theorem dM_all_8 : decode cM_all 8 = .ok (.ireturn, 1) := by decide +kernel
def fM_all (w : x_W) (v0 : Nat) : Option Int32 :=
  (x_ob w v0 5).bind fun _ =>
  (fM_n w v0).bind fun t2 =>
  some (((1 : Int32) <<< (t2 &&& 31)) - (1 : Int32))
set_option maxHeartbeats 4000000 in
set_option maxRecDepth 100000 in
theorem mM_all (d : Nat) (hd : 2 ≤ d) {K : Option Value → x_W → Prop} {w : x_W} {v0 : Nat} {r : Int32} (h : fM_all w v0 = some r) (hK : K (some (.int r)) w) : x_M yM_all cM_all 1 (some .int) d 0 0 [.ref v0] w K := by
  refine x_M.of [some (.ref v0)] (by decide) rfl (Nat.le_of_ble_eq_true rfl) ?_
  unfold fM_all at h
  refine g_iconst 1 (1 : Int32) dM_all_0 rfl (by decide) ?_
  refine g_aload_n 2 (i := 0) dM_all_1 rfl rfl rfl ?_
  obtain ⟨_, e1, h⟩ := x_bind h
  obtain ⟨t2, e2, h⟩ := x_bind h
  refine g_cV 5 (some (.int t2)) w [] [.int (1 : Int32)] dM_all_2 rfl (fun _ hK2 => mM_n (d - 1) (by omega) e2 hK2) (x_ob_some e1) kM_44 (x_rm (Nat.le_trans (by decide) hd) (by decide)) ⟨Nat.zero_le _, Nat.zero_le _⟩ (Nat.le_of_ble_eq_true rfl) rfl ?_
  refine g_ishl 6 dM_all_5 rfl ?_
  refine g_iconst 7 (1 : Int32) dM_all_6 rfl (by decide) ?_
  refine g_isub 8 dM_all_7 rfl ?_
  obtain rfl := Option.some.inj h
  exact g_iret rfl dM_all_8 hK
/-! ActSurgeryModel.isSet(I)Z: level P -/
theorem dM_isSet_0 : decode cM_isSet 0 = .ok (.iload_n 1, 1) := by decide +kernel
theorem dM_isSet_1 : decode cM_isSet 1 = .ok (.iconst 0, 1) := by decide +kernel
theorem dM_isSet_2 : decode cM_isSet 2 = .ok (.aload_n 0, 1) := by decide +kernel
theorem dM_isSet_3 : decode cM_isSet 3 = .ok (.invokevirtual 52, 3) := by decide +kernel
theorem dM_isSet_6 : decode cM_isSet 6 = .ok (.invokestatic 48, 3) := by decide +kernel
theorem dM_isSet_9 : decode cM_isSet 9 = .ok (.ireturn, 1) := by decide +kernel
theorem tw_3_61 : (Jvm.Cond.instanceMethod ({ cls := "ActSurgeryModel", name := "all", desc := "()I" } : Jvm.MethodName)) ∈ x_GT := x_t3 61 rfl rfl
theorem tws_32 : (Jvm.Cond.selects "ActSurgeryModel" ({ cls := "ActSurgeryModel", name := "all", desc := "()I" } : Jvm.MethodName) ({ cls := "ActSurgeryModel", name := "all", desc := "()I" } : Jvm.MethodName)) ∈ x_GT := x_ts 32 rfl rfl
theorem tw_3_62 : (Jvm.Cond.code ({ cls := "ActSurgeryModel", name := "all", desc := "()I" } : Jvm.MethodName) prog_7_method_7_code (1 : Nat) (Option.some Jvm.ClassFile.FieldType.int)) ∈ x_GT := x_t3 62 rfl rfl
theorem tw_3_59 : (Jvm.Cond.methodLink "ActSurgeryModel" (52 : Nat) ({ cls := "ActSurgeryModel", name := "all", desc := "()I" } : Jvm.MethodName)) ∈ x_GT := x_t3 59 rfl rfl
theorem kM_52 : x_kV "ActSurgeryModel" 52 yM_all cM_all 1 (some .int) 0 5 := ⟨tw_3_61, tws_32, tw_3_62, tw_1_6, tw_3_59, (by decide +kernel), rfl⟩
def fM_isSet (w : x_W) (v0 : Nat) (v1 : Int32) : Option Int32 :=
  (x_ob w v0 5).bind fun _ =>
  (fM_all w v0).bind fun t2 =>
  if (fM_isIn v1 (0 : Int32) t2) = 0 ∨ (fM_isIn v1 (0 : Int32) t2) = 1 then some (fM_isIn v1 (0 : Int32) t2) else none
set_option maxHeartbeats 4000000 in
set_option maxRecDepth 100000 in
theorem mM_isSet (d : Nat) (hd : 3 ≤ d) {K : Option Value → x_W → Prop} {w : x_W} {v0 : Nat} {v1 : Int32} {r : Int32} (h : fM_isSet w v0 v1 = some r) (hK : K (some (.int r)) w) : x_M yM_isSet cM_isSet 2 (some .boolean) d 0 0 [.ref v0, .int v1] w K := by
  refine x_M.of [some (.ref v0), some (.int v1)] (by decide) rfl (Nat.le_of_ble_eq_true rfl) ?_
  unfold fM_isSet at h
  refine g_iload_n 1 (i := 1) dM_isSet_0 rfl rfl rfl ?_
  refine g_iconst 2 (0 : Int32) dM_isSet_1 rfl (by decide) ?_
  refine g_aload_n 3 (i := 0) dM_isSet_2 rfl rfl rfl ?_
  obtain ⟨_, e1, h⟩ := x_bind h
  obtain ⟨t2, e2, h⟩ := x_bind h
  refine g_cV 6 (some (.int t2)) w [] [.int (0 : Int32), .int v1] dM_isSet_3 rfl (fun _ hK2 => mM_all (d - 1) (by omega) e2 hK2) (x_ob_some e1) kM_52 (x_rm (Nat.le_trans (by decide) hd) (by decide)) ⟨Nat.zero_le _, Nat.zero_le _⟩ (Nat.le_of_ble_eq_true rfl) rfl ?_
  refine g_cS 9 (some (.int (fM_isIn v1 (0 : Int32) t2))) w [.int v1, .int (0 : Int32), .int t2] [] dM_isSet_6 rfl (fun _ hK2 => mM_isIn (d - 1) (by omega) rfl hK2) kM_48 (x_rm (Nat.le_trans (by decide) hd) (by decide)) ⟨Nat.zero_le _, Nat.zero_le _⟩ (Nat.le_of_ble_eq_true rfl) rfl ?_
  have c3 : (fM_isIn v1 (0 : Int32) t2) = 0 ∨ (fM_isIn v1 (0 : Int32) t2) = 1 := by
    by_cases c : (fM_isIn v1 (0 : Int32) t2) = 0 ∨ (fM_isIn v1 (0 : Int32) t2) = 1
    · exact c
    · rw [if_neg c] at h; cases h
  rw [if_pos c3] at h
  obtain rfl := Option.some.inj h
  exact g_zret rfl c3 dM_isSet_9 hK
/-! ActSurgeryModel.ones(I)I: level N -/
theorem dM_ones_0 : decode cM_ones 0 = .ok (.iconst 0, 1) := by decide +kernel
theorem dM_ones_1 : decode cM_ones 1 = .ok (.istore_n 1, 1) := by decide +kernel
theorem dM_ones_2 : decode cM_ones 2 = .ok (.iconst 0, 1) := by decide +kernel
theorem dM_ones_3 : decode cM_ones 3 = .ok (.istore_n 2, 1) := by decide +kernel
theorem dM_ones_4 : decode cM_ones 4 = .ok (.iload_n 2, 1) := by decide +kernel
theorem dM_ones_5 : decode cM_ones 5 = .ok (.bipush 6, 2) := by decide +kernel
theorem dM_ones_7 : decode cM_ones 7 = .ok (.if_icmp .ge 17, 3) := by decide +kernel
theorem dM_ones_10 : decode cM_ones 10 = .ok (.iload_n 1, 1) := by decide +kernel
theorem dM_ones_11 : decode cM_ones 11 = .ok (.iload_n 0, 1) := by decide +kernel
theorem dM_ones_12 : decode cM_ones 12 = .ok (.iload_n 2, 1) := by decide +kernel
theorem dM_ones_13 : decode cM_ones 13 = .ok (.ishr, 1) := by decide +kernel
theorem dM_ones_14 : decode cM_ones 14 = .ok (.iconst 1, 1) := by decide +kernel
theorem dM_ones_15 : decode cM_ones 15 = .ok (.iand, 1) := by decide +kernel
theorem dM_ones_16 : decode cM_ones 16 = .ok (.iadd, 1) := by decide +kernel
theorem dM_ones_17 : decode cM_ones 17 = .ok (.istore_n 1, 1) := by decide +kernel
theorem dM_ones_18 : decode cM_ones 18 = .ok (.iinc 2 1, 3) := by decide +kernel
theorem dM_ones_21 : decode cM_ones 21 = .ok (.goto (-17), 3) := by decide +kernel
theorem dM_ones_24 : decode cM_ones 24 = .ok (.iload_n 1, 1) := by decide +kernel
theorem dM_ones_25 : decode cM_ones 25 = .ok (.ireturn, 1) := by decide +kernel
def fM_ones_4  : Nat → Int32 → Int32 → Int32 → Option Int32
  | 0, _, _, _ => none
  | n + 1, v0, v1, v2 =>
    if (6 : Int32) ≤ v2 then
      some v1
    else
      fM_ones_4 n v0 (v1 + ((v0 >>> (v2 &&& 31)) &&& (1 : Int32))) (v2 + (1 : Int32))
def fM_ones  (v0 : Int32) : Option Int32 :=
  fM_ones_4 x_F v0 (0 : Int32) (0 : Int32)
set_option maxHeartbeats 4000000 in
set_option maxRecDepth 100000 in
theorem lM_ones_4 (d : Nat) (hd : 1 ≤ d) {K : Option Value → x_W → Prop} {r : Int32} {w : x_W} (hK : K (some (.int r)) w) : ∀ (n : Nat) (v0 : Int32) (v1 : Int32) (v2 : Int32), fM_ones_4 n v0 v1 v2 = some r → x_G none yM_ones cM_ones 3 (some .int) (x_room d 0 0) (x_QM K 0 0) 4 [some (.int v0), some (.int v1), some (.int v2)] [] w 0 0 := by
  intro n
  induction n with
  | zero => intro v0 v1 v2 h; rw [fM_ones_4] at h; cases h
  | succ n ih =>
    intro v0 v1 v2 h
    rw [fM_ones_4] at h
    refine g_iload_n 5 (i := 2) dM_ones_4 rfl rfl rfl ?_
    refine g_bipush 7 (6 : Int32) dM_ones_5 rfl (by decide) ?_
    by_cases c1 : (6 : Int32) ≤ v2
    · rw [if_pos c1] at h
      refine g_icmp_ge_t 24 dM_ones_7 (by decide) c1 ?_
      refine g_iload_n 25 (i := 1) dM_ones_24 rfl rfl rfl ?_
      obtain rfl := Option.some.inj h
      exact g_iret rfl dM_ones_25 hK
    · rw [if_neg c1] at h
      refine g_icmp_ge_f 10 24 dM_ones_7 (by decide) rfl c1 ?_
      refine g_iload_n 11 (i := 1) dM_ones_10 rfl rfl rfl ?_
      refine g_iload_n 12 (i := 0) dM_ones_11 rfl rfl rfl ?_
      refine g_iload_n 13 (i := 2) dM_ones_12 rfl rfl rfl ?_
      refine g_ishr 14 dM_ones_13 rfl ?_
      refine g_iconst 15 (1 : Int32) dM_ones_14 rfl (by decide) ?_
      refine g_iand 16 dM_ones_15 rfl ?_
      refine g_iadd 17 dM_ones_16 rfl ?_
      refine g_istore_n 18 (i := 1) [some (.int v0), some (.int (v1 + ((v0 >>> (v2 &&& 31)) &&& (1 : Int32)))), some (.int v2)] dM_ones_17 rfl rfl rfl (by decide) ?_
      refine g_iinc 21 [some (.int v0), some (.int (v1 + ((v0 >>> (v2 &&& 31)) &&& (1 : Int32)))), some (.int (v2 + (1 : Int32)))] dM_ones_18 rfl rfl (x_inc (1 : Int32) (by decide)) rfl (by decide) ?_
      refine g_goto 4 dM_ones_21 (by decide) ?_
      exact ih _ _ _ h
set_option maxHeartbeats 4000000 in
set_option maxRecDepth 100000 in
theorem mM_ones (d : Nat) (hd : 1 ≤ d) {K : Option Value → x_W → Prop} {w : x_W} {v0 : Int32} {r : Int32} (h : fM_ones v0 = some r) (hK : K (some (.int r)) w) : x_M yM_ones cM_ones 3 (some .int) d 0 0 [.int v0] w K := by
  refine x_M.of [some (.int v0), none, none] (by decide) rfl (Nat.le_of_ble_eq_true rfl) ?_
  unfold fM_ones at h
  refine g_iconst 1 (0 : Int32) dM_ones_0 rfl (by decide) ?_
  refine g_istore_n 2 (i := 1) [some (.int v0), some (.int (0 : Int32)), none] dM_ones_1 rfl rfl rfl (by decide) ?_
  refine g_iconst 3 (0 : Int32) dM_ones_2 rfl (by decide) ?_
  refine g_istore_n 4 (i := 2) [some (.int v0), some (.int (0 : Int32)), some (.int (0 : Int32))] dM_ones_3 rfl rfl rfl (by decide) ?_
  exact lM_ones_4 d hd hK x_F _ _ _ h
/-! ActSurgeryModel.has(II)Z: level T -/
theorem dM_has_0 : decode cM_has 0 = .ok (.iload_n 0, 1) := by decide +kernel
theorem dM_has_1 : decode cM_has 1 = .ok (.iload_n 1, 1) := by decide +kernel
theorem dM_has_2 : decode cM_has 2 = .ok (.ishr, 1) := by decide +kernel
theorem dM_has_3 : decode cM_has 3 = .ok (.iconst 1, 1) := by decide +kernel
theorem dM_has_4 : decode cM_has 4 = .ok (.iand, 1) := by decide +kernel
theorem dM_has_5 : decode cM_has 5 = .ok (.iconst 1, 1) := by decide +kernel
theorem dM_has_6 : decode cM_has 6 = .ok (.if_icmp .ne 7, 3) := by decide +kernel
theorem dM_has_9 : decode cM_has 9 = .ok (.iconst 1, 1) := by decide +kernel
theorem dM_has_10 : decode cM_has 10 = .ok (.goto 4, 3) := by decide +kernel
theorem dM_has_13 : decode cM_has 13 = .ok (.iconst 0, 1) := by decide +kernel
theorem dM_has_14 : decode cM_has 14 = .ok (.ireturn, 1) := by decide +kernel
def fM_has  (v0 : Int32) (v1 : Int32) : Int32 :=
  if ((v0 >>> (v1 &&& 31)) &&& (1 : Int32)) = (1 : Int32) then
    (1 : Int32)
  else
    (0 : Int32)
set_option maxHeartbeats 4000000 in
set_option maxRecDepth 100000 in
theorem mM_has (d : Nat) (hd : 1 ≤ d) {K : Option Value → x_W → Prop} {w : x_W} {v0 : Int32} {v1 : Int32} {r : Int32} (h : fM_has v0 v1 = r) (hK : K (some (.int r)) w) : x_M yM_has cM_has 2 (some .boolean) d 0 0 [.int v0, .int v1] w K := by
  refine x_M.of [some (.int v0), some (.int v1)] (by decide) rfl (Nat.le_of_ble_eq_true rfl) ?_
  unfold fM_has at h
  refine g_iload_n 1 (i := 0) dM_has_0 rfl rfl rfl ?_
  refine g_iload_n 2 (i := 1) dM_has_1 rfl rfl rfl ?_
  refine g_ishr 3 dM_has_2 rfl ?_
  refine g_iconst 4 (1 : Int32) dM_has_3 rfl (by decide) ?_
  refine g_iand 5 dM_has_4 rfl ?_
  refine g_iconst 6 (1 : Int32) dM_has_5 rfl (by decide) ?_
  by_cases c1 : ((v0 >>> (v1 &&& 31)) &&& (1 : Int32)) = (1 : Int32)
  · rw [if_pos c1] at h
    refine g_icmp_ne_f 9 13 dM_has_6 (by decide) rfl c1 ?_
    refine g_iconst 10 (1 : Int32) dM_has_9 rfl (by decide) ?_
    refine g_goto 14 dM_has_10 (by decide) ?_
    subst h
    exact g_zret rfl (by decide) dM_has_14 hK
  · rw [if_neg c1] at h
    refine g_icmp_ne_t 13 dM_has_6 (by decide) c1 ?_
    refine g_iconst 14 (0 : Int32) dM_has_13 rfl (by decide) ?_
    subst h
    exact g_zret rfl (by decide) dM_has_14 hK
/-! ActSurgeryModel.begin(I)I: level X -/
theorem dM_begin_0 : decode cM_begin 0 = .ok (.iload_n 1, 1) := by decide +kernel
theorem dM_begin_1 : decode cM_begin 1 = .ok (.iconst 1, 1) := by decide +kernel
theorem dM_begin_2 : decode cM_begin 2 = .ok (.bipush 6, 2) := by decide +kernel
theorem dM_begin_4 : decode cM_begin 4 = .ok (.invokestatic 48, 3) := by decide +kernel
theorem dM_begin_7 : decode cM_begin 7 = .ok (.ifCond .ne 6, 3) := by decide +kernel
theorem dM_begin_10 : decode cM_begin 10 = .ok (.bipush (-2), 2) := by decide +kernel
theorem dM_begin_12 : decode cM_begin 12 = .ok (.ireturn, 1) := by decide +kernel
theorem dM_begin_13 : decode cM_begin 13 = .ok (.aload_n 0, 1) := by decide +kernel
theorem dM_begin_14 : decode cM_begin 14 = .ok (.invokevirtual 44, 3) := by decide +kernel
theorem dM_begin_17 : decode cM_begin 17 = .ok (.istore_n 2, 1) := by decide +kernel
theorem dM_begin_18 : decode cM_begin 18 = .ok (.aload_n 0, 1) := by decide +kernel
theorem dM_begin_19 : decode cM_begin 19 = .ok (.iconst 0, 1) := by decide +kernel
theorem dM_begin_20 : decode cM_begin 20 = .ok (.iload_n 1, 1) := by decide +kernel
theorem dM_begin_21 : decode cM_begin 21 = .ok (.invokevirtual 37, 3) := by decide +kernel
theorem dM_begin_24 : decode cM_begin 24 = .ok (.iload_n 2, 1) := by decide +kernel
theorem dM_begin_25 : decode cM_begin 25 = .ok (.ireturn, 1) := by decide +kernel
def fM_begin  (w : x_W) (v0 : Nat) (v1 : Int32) : Option (Int32 × x_W) :=
  if (fM_isIn v1 (1 : Int32) (6 : Int32)) = (0 : Int32) then
    some ((-2 : Int32), w)
  else
    (x_ob w v0 5).bind fun _ =>
    (fM_n w v0).bind fun t3 =>
    (fM_clear w v0 (0 : Int32) v1).bind fun w4 =>
    some (t3, w4)
set_option maxHeartbeats 4000000 in
set_option maxRecDepth 100000 in
theorem mM_begin (d : Nat) (hd : 3 ≤ d) {K : Option Value → x_W → Prop} {w : x_W} {v0 : Nat} {v1 : Int32} {r : (Int32 × x_W)} (h : fM_begin w v0 v1 = some r) (hK : K (some (.int r.1)) r.2) : x_M yM_begin cM_begin 3 (some .int) d 0 0 [.ref v0, .int v1] w K := by
  refine x_M.of [some (.ref v0), some (.int v1), none] (by decide) rfl (Nat.le_of_ble_eq_true rfl) ?_
  unfold fM_begin at h
  refine g_iload_n 1 (i := 1) dM_begin_0 rfl rfl rfl ?_
  refine g_iconst 2 (1 : Int32) dM_begin_1 rfl (by decide) ?_
  refine g_bipush 4 (6 : Int32) dM_begin_2 rfl (by decide) ?_
  refine g_cS 7 (some (.int (fM_isIn v1 (1 : Int32) (6 : Int32)))) w [.int v1, .int (1 : Int32), .int (6 : Int32)] [] dM_begin_4 rfl (fun _ hK2 => mM_isIn (d - 1) (by omega) rfl hK2) kM_48 (x_rm (Nat.le_trans (by decide) hd) (by decide)) ⟨Nat.zero_le _, Nat.zero_le _⟩ (Nat.le_of_ble_eq_true rfl) rfl ?_
  by_cases c1 : (fM_isIn v1 (1 : Int32) (6 : Int32)) = (0 : Int32)
  · rw [if_pos c1] at h
    refine g_if_ne_f 10 13 dM_begin_7 (by decide) rfl c1 ?_
    refine g_bipush 12 (-2 : Int32) dM_begin_10 rfl (by decide) ?_
    obtain rfl := Option.some.inj h
    exact g_iret rfl dM_begin_12 hK
  · rw [if_neg c1] at h
    refine g_if_ne_t 13 dM_begin_7 (by decide) c1 ?_
    refine g_aload_n 14 (i := 0) dM_begin_13 rfl rfl rfl ?_
    obtain ⟨_, e2, h⟩ := x_bind h
    obtain ⟨t3, e3, h⟩ := x_bind h
    refine g_cV 17 (some (.int t3)) w [] [] dM_begin_14 rfl (fun _ hK2 => mM_n (d - 1) (by omega) e3 hK2) (x_ob_some e2) kM_44 (x_rm (Nat.le_trans (by decide) hd) (by decide)) ⟨Nat.zero_le _, Nat.zero_le _⟩ (Nat.le_of_ble_eq_true rfl) rfl ?_
    refine g_istore_n 18 (i := 2) [some (.ref v0), some (.int v1), some (.int t3)] dM_begin_17 rfl rfl rfl (by decide) ?_
    refine g_aload_n 19 (i := 0) dM_begin_18 rfl rfl rfl ?_
    refine g_iconst 20 (0 : Int32) dM_begin_19 rfl (by decide) ?_
    refine g_iload_n 21 (i := 1) dM_begin_20 rfl rfl rfl ?_
    obtain ⟨w4, e4, h⟩ := x_bind h
    refine g_cV 24 none w4 [.int (0 : Int32), .int v1] [] dM_begin_21 rfl (fun _ hK2 => mM_clear (d - 1) (by omega) e4 hK2) (x_ob_some e2) kM_37 (x_rm (Nat.le_trans (by decide) hd) (by decide)) ⟨Nat.zero_le _, Nat.zero_le _⟩ (Nat.le_of_ble_eq_true rfl) rfl ?_
    refine g_iload_n 25 (i := 2) dM_begin_24 rfl rfl rfl ?_
    obtain rfl := Option.some.inj h
    exact g_iret rfl dM_begin_25 hK
/-! ActSurgeryModel.parents(II)I: level X -/
theorem dM_parents_0 : decode cM_parents 0 = .ok (.aload_n 0, 1) := by decide +kernel
theorem dM_parents_1 : decode cM_parents 1 = .ok (.iload_n 1, 1) := by decide +kernel
theorem dM_parents_2 : decode cM_parents 2 = .ok (.invokevirtual 55, 3) := by decide +kernel
theorem dM_parents_5 : decode cM_parents 5 = .ok (.ifCond .eq 16, 3) := by decide +kernel
theorem dM_parents_8 : decode cM_parents 8 = .ok (.iload_n 2, 1) := by decide +kernel
theorem dM_parents_9 : decode cM_parents 9 = .ok (.iconst 0, 1) := by decide +kernel
theorem dM_parents_10 : decode cM_parents 10 = .ok (.iconst 1, 1) := by decide +kernel
theorem dM_parents_11 : decode cM_parents 11 = .ok (.iload_n 1, 1) := by decide +kernel
theorem dM_parents_12 : decode cM_parents 12 = .ok (.ishl, 1) := by decide +kernel
theorem dM_parents_13 : decode cM_parents 13 = .ok (.iconst 1, 1) := by decide +kernel
theorem dM_parents_14 : decode cM_parents 14 = .ok (.isub, 1) := by decide +kernel
theorem dM_parents_15 : decode cM_parents 15 = .ok (.invokestatic 48, 3) := by decide +kernel
theorem dM_parents_18 : decode cM_parents 18 = .ok (.ifCond .ne 6, 3) := by decide +kernel
theorem dM_parents_21 : decode cM_parents 21 = .ok (.bipush (-2), 2) := by decide +kernel
theorem dM_parents_23 : decode cM_parents 23 = .ok (.ireturn, 1) := by decide +kernel
theorem dM_parents_24 : decode cM_parents 24 = .ok (.aload_n 0, 1) := by decide +kernel
theorem dM_parents_25 : decode cM_parents 25 = .ok (.getfield 13, 3) := by decide +kernel
theorem dM_parents_28 : decode cM_parents 28 = .ok (.iload_n 1, 1) := by decide +kernel
theorem dM_parents_29 : decode cM_parents 29 = .ok (.iaload, 1) := by decide +kernel
theorem dM_parents_30 : decode cM_parents 30 = .ok (.istore_n 3, 1) := by decide +kernel
theorem dM_parents_31 : decode cM_parents 31 = .ok (.aload_n 0, 1) := by decide +kernel
theorem dM_parents_32 : decode cM_parents 32 = .ok (.getfield 13, 3) := by decide +kernel
theorem dM_parents_35 : decode cM_parents 35 = .ok (.iload_n 1, 1) := by decide +kernel
theorem dM_parents_36 : decode cM_parents 36 = .ok (.iload_n 2, 1) := by decide +kernel
theorem dM_parents_37 : decode cM_parents 37 = .ok (.iastore, 1) := by decide +kernel
theorem dM_parents_38 : decode cM_parents 38 = .ok (.aload_n 0, 1) := by decide +kernel
theorem dM_parents_39 : decode cM_parents 39 = .ok (.iconst 0, 1) := by decide +kernel
theorem dM_parents_40 : decode cM_parents 40 = .ok (.iload_n 1, 1) := by decide +kernel
theorem dM_parents_41 : decode cM_parents 41 = .ok (.invokevirtual 41, 3) := by decide +kernel
theorem dM_parents_44 : decode cM_parents 44 = .ok (.iload_n 3, 1) := by decide +kernel
theorem dM_parents_45 : decode cM_parents 45 = .ok (.ireturn, 1) := by decide +kernel
theorem tw_3_49 : (Jvm.Cond.instanceMethod ({ cls := "ActSurgeryModel", name := "isPlace", desc := "(I)Z" } : Jvm.MethodName)) ∈ x_GT := x_t3 49 rfl rfl
theorem tws_30 : (Jvm.Cond.selects "ActSurgeryModel" ({ cls := "ActSurgeryModel", name := "isPlace", desc := "(I)Z" } : Jvm.MethodName) ({ cls := "ActSurgeryModel", name := "isPlace", desc := "(I)Z" } : Jvm.MethodName)) ∈ x_GT := x_ts 30 rfl rfl
theorem tw_3_50 : (Jvm.Cond.code ({ cls := "ActSurgeryModel", name := "isPlace", desc := "(I)Z" } : Jvm.MethodName) prog_7_method_6_code (2 : Nat) (Option.some Jvm.ClassFile.FieldType.boolean)) ∈ x_GT := x_t3 50 rfl rfl
theorem tw_3_47 : (Jvm.Cond.methodLink "ActSurgeryModel" (55 : Nat) ({ cls := "ActSurgeryModel", name := "isPlace", desc := "(I)Z" } : Jvm.MethodName)) ∈ x_GT := x_t3 47 rfl rfl
theorem kM_55 : x_kV "ActSurgeryModel" 55 yM_isPlace cM_isPlace 2 (some .boolean) 1 5 := ⟨tw_3_49, tws_30, tw_3_50, tw_1_6, tw_3_47, (by decide +kernel), rfl⟩
def fM_parents  (w : x_W) (v0 : Nat) (v1 : Int32) (v2 : Int32) : Option (Int32 × x_W) :=
  (x_ob w v0 5).bind fun _ =>
  (fM_isPlace w v0 v1).bind fun t2 =>
  if t2 = (0 : Int32) then
    some ((-2 : Int32), w)
  else
    if (fM_isIn v2 (0 : Int32) (((1 : Int32) <<< (v1 &&& 31)) - (1 : Int32))) = (0 : Int32) then
      some ((-2 : Int32), w)
    else
      (x_fr w v0 5 1).bind fun t5 =>
      (x_ai w t5 v1).bind fun t6 =>
      (x_pa w t5 v1 v2).bind fun w7 =>
      (x_ob w7 v0 5).bind fun _ =>
      (fM_resetWeights w7 v0 (0 : Int32) v1).bind fun w9 =>
      some (t6, w9)
set_option maxHeartbeats 4000000 in
set_option maxRecDepth 100000 in
theorem mM_parents (d : Nat) (hd : 3 ≤ d) {K : Option Value → x_W → Prop} {w : x_W} {v0 : Nat} {v1 : Int32} {v2 : Int32} {r : (Int32 × x_W)} (h : fM_parents w v0 v1 v2 = some r) (hK : K (some (.int r.1)) r.2) : x_M yM_parents cM_parents 4 (some .int) d 0 0 [.ref v0, .int v1, .int v2] w K := by
  refine x_M.of [some (.ref v0), some (.int v1), some (.int v2), none] (by decide) rfl (Nat.le_of_ble_eq_true rfl) ?_
  unfold fM_parents at h
  refine g_aload_n 1 (i := 0) dM_parents_0 rfl rfl rfl ?_
  refine g_iload_n 2 (i := 1) dM_parents_1 rfl rfl rfl ?_
  obtain ⟨_, e1, h⟩ := x_bind h
  obtain ⟨t2, e2, h⟩ := x_bind h
  refine g_cV 5 (some (.int t2)) w [.int v1] [] dM_parents_2 rfl (fun _ hK2 => mM_isPlace (d - 1) (by omega) e2 hK2) (x_ob_some e1) kM_55 (x_rm (Nat.le_trans (by decide) hd) (by decide)) ⟨Nat.zero_le _, Nat.zero_le _⟩ (Nat.le_of_ble_eq_true rfl) rfl ?_
  by_cases c3 : t2 = (0 : Int32)
  · rw [if_pos c3] at h
    refine g_if_eq_t 21 dM_parents_5 (by decide) c3 ?_
    refine g_bipush 23 (-2 : Int32) dM_parents_21 rfl (by decide) ?_
    obtain rfl := Option.some.inj h
    exact g_iret rfl dM_parents_23 hK
  · rw [if_neg c3] at h
    refine g_if_eq_f 8 21 dM_parents_5 (by decide) rfl c3 ?_
    refine g_iload_n 9 (i := 2) dM_parents_8 rfl rfl rfl ?_
    refine g_iconst 10 (0 : Int32) dM_parents_9 rfl (by decide) ?_
    refine g_iconst 11 (1 : Int32) dM_parents_10 rfl (by decide) ?_
    refine g_iload_n 12 (i := 1) dM_parents_11 rfl rfl rfl ?_
    refine g_ishl 13 dM_parents_12 rfl ?_
    refine g_iconst 14 (1 : Int32) dM_parents_13 rfl (by decide) ?_
    refine g_isub 15 dM_parents_14 rfl ?_
    refine g_cS 18 (some (.int (fM_isIn v2 (0 : Int32) (((1 : Int32) <<< (v1 &&& 31)) - (1 : Int32))))) w [.int v2, .int (0 : Int32), .int (((1 : Int32) <<< (v1 &&& 31)) - (1 : Int32))] [] dM_parents_15 rfl (fun _ hK2 => mM_isIn (d - 1) (by omega) rfl hK2) kM_48 (x_rm (Nat.le_trans (by decide) hd) (by decide)) ⟨Nat.zero_le _, Nat.zero_le _⟩ (Nat.le_of_ble_eq_true rfl) rfl ?_
    by_cases c4 : (fM_isIn v2 (0 : Int32) (((1 : Int32) <<< (v1 &&& 31)) - (1 : Int32))) = (0 : Int32)
    · rw [if_pos c4] at h
      refine g_if_ne_f 21 24 dM_parents_18 (by decide) rfl c4 ?_
      refine g_bipush 23 (-2 : Int32) dM_parents_21 rfl (by decide) ?_
      obtain rfl := Option.some.inj h
      exact g_iret rfl dM_parents_23 hK
    · rw [if_neg c4] at h
      refine g_if_ne_t 24 dM_parents_18 (by decide) c4 ?_
      refine g_aload_n 25 (i := 0) dM_parents_24 rfl rfl rfl ?_
      obtain ⟨t5, e5, h⟩ := x_bind h
      refine g_getfR 28 5 1 dM_parents_25 rfl x_in5 tw_2_236 rfl (by decide) e5 ?_
      refine g_iload_n 29 (i := 1) dM_parents_28 rfl rfl rfl ?_
      obtain ⟨t6, e6, h⟩ := x_bind h
      refine g_iald 30 dM_parents_29 rfl e6 ?_
      refine g_istore_n 31 (i := 3) [some (.ref v0), some (.int v1), some (.int v2), some (.int t6)] dM_parents_30 rfl rfl rfl (by decide) ?_
      refine g_aload_n 32 (i := 0) dM_parents_31 rfl rfl rfl ?_
      refine g_getfR 35 5 1 dM_parents_32 rfl x_in5 tw_2_236 rfl (by decide) e5 ?_
      refine g_iload_n 36 (i := 1) dM_parents_35 rfl rfl rfl ?_
      refine g_iload_n 37 (i := 2) dM_parents_36 rfl rfl rfl ?_
      obtain ⟨w7, e7, h⟩ := x_bind h
      refine g_iast 38 dM_parents_37 rfl e7 ?_
      refine g_aload_n 39 (i := 0) dM_parents_38 rfl rfl rfl ?_
      refine g_iconst 40 (0 : Int32) dM_parents_39 rfl (by decide) ?_
      refine g_iload_n 41 (i := 1) dM_parents_40 rfl rfl rfl ?_
      obtain ⟨_, e8, h⟩ := x_bind h
      obtain ⟨w9, e9, h⟩ := x_bind h
      refine g_cV 44 none w9 [.int (0 : Int32), .int v1] [] dM_parents_41 rfl (fun _ hK2 => mM_resetWeights (d - 1) (by omega) e9 hK2) (x_ob_some e8) kM_41 (x_rm (Nat.le_trans (by decide) hd) (by decide)) ⟨Nat.zero_le _, Nat.zero_le _⟩ (Nat.le_of_ble_eq_true rfl) rfl ?_
      refine g_iload_n 45 (i := 3) dM_parents_44 rfl rfl rfl ?_
      obtain rfl := Option.some.inj h
      exact g_iret rfl dM_parents_45 hK
/-! ActSurgeryModel.weight(III)I: level X -/
theorem dM_weight_0 : decode cM_weight 0 = .ok (.aload_n 0, 1) := by decide +kernel
theorem dM_weight_1 : decode cM_weight 1 = .ok (.iload_n 1, 1) := by decide +kernel
theorem dM_weight_2 : decode cM_weight 2 = .ok (.invokevirtual 55, 3) := by decide +kernel
theorem dM_weight_5 : decode cM_weight 5 = .ok (.ifCond .eq 34, 3) := by decide +kernel
theorem dM_weight_8 : decode cM_weight 8 = .ok (.aload_n 0, 1) := by decide +kernel
theorem dM_weight_9 : decode cM_weight 9 = .ok (.iload_n 2, 1) := by decide +kernel
theorem dM_weight_10 : decode cM_weight 10 = .ok (.invokevirtual 59, 3) := by decide +kernel
theorem dM_weight_13 : decode cM_weight 13 = .ok (.ifCond .eq 26, 3) := by decide +kernel
theorem dM_weight_16 : decode cM_weight 16 = .ok (.iload_n 2, 1) := by decide +kernel
theorem dM_weight_17 : decode cM_weight 17 = .ok (.aload_n 0, 1) := by decide +kernel
theorem dM_weight_18 : decode cM_weight 18 = .ok (.getfield 13, 3) := by decide +kernel
theorem dM_weight_21 : decode cM_weight 21 = .ok (.iload_n 1, 1) := by decide +kernel
theorem dM_weight_22 : decode cM_weight 22 = .ok (.iaload, 1) := by decide +kernel
theorem dM_weight_23 : decode cM_weight 23 = .ok (.iconst (-1), 1) := by decide +kernel
theorem dM_weight_24 : decode cM_weight 24 = .ok (.ixor, 1) := by decide +kernel
theorem dM_weight_25 : decode cM_weight 25 = .ok (.iand, 1) := by decide +kernel
theorem dM_weight_26 : decode cM_weight 26 = .ok (.ifCond .ne 13, 3) := by decide +kernel
theorem dM_weight_29 : decode cM_weight 29 = .ok (.iload_n 3, 1) := by decide +kernel
theorem dM_weight_30 : decode cM_weight 30 = .ok (.iconst 0, 1) := by decide +kernel
theorem dM_weight_31 : decode cM_weight 31 = .ok (.bipush 16, 2) := by decide +kernel
theorem dM_weight_33 : decode cM_weight 33 = .ok (.invokestatic 48, 3) := by decide +kernel
theorem dM_weight_36 : decode cM_weight 36 = .ok (.ifCond .ne 6, 3) := by decide +kernel
theorem dM_weight_39 : decode cM_weight 39 = .ok (.bipush (-2), 2) := by decide +kernel
theorem dM_weight_41 : decode cM_weight 41 = .ok (.ireturn, 1) := by decide +kernel
theorem dM_weight_42 : decode cM_weight 42 = .ok (.aload_n 0, 1) := by decide +kernel
theorem dM_weight_43 : decode cM_weight 43 = .ok (.getfield 16, 3) := by decide +kernel
theorem dM_weight_46 : decode cM_weight 46 = .ok (.iload_n 1, 1) := by decide +kernel
theorem dM_weight_47 : decode cM_weight 47 = .ok (.bipush 64, 2) := by decide +kernel
theorem dM_weight_49 : decode cM_weight 49 = .ok (.imul, 1) := by decide +kernel
theorem dM_weight_50 : decode cM_weight 50 = .ok (.iload_n 2, 1) := by decide +kernel
theorem dM_weight_51 : decode cM_weight 51 = .ok (.iadd, 1) := by decide +kernel
theorem dM_weight_52 : decode cM_weight 52 = .ok (.iaload, 1) := by decide +kernel
theorem dM_weight_53 : decode cM_weight 53 = .ok (.istore 4, 2) := by decide +kernel
theorem dM_weight_55 : decode cM_weight 55 = .ok (.aload_n 0, 1) := by decide +kernel
theorem dM_weight_56 : decode cM_weight 56 = .ok (.getfield 16, 3) := by decide +kernel
theorem dM_weight_59 : decode cM_weight 59 = .ok (.iload_n 1, 1) := by decide +kernel
theorem dM_weight_60 : decode cM_weight 60 = .ok (.bipush 64, 2) := by decide +kernel
theorem dM_weight_62 : decode cM_weight 62 = .ok (.imul, 1) := by decide +kernel
theorem dM_weight_63 : decode cM_weight 63 = .ok (.iload_n 2, 1) := by decide +kernel
theorem dM_weight_64 : decode cM_weight 64 = .ok (.iadd, 1) := by decide +kernel
theorem dM_weight_65 : decode cM_weight 65 = .ok (.iload_n 3, 1) := by decide +kernel
theorem dM_weight_66 : decode cM_weight 66 = .ok (.iastore, 1) := by decide +kernel
theorem dM_weight_67 : decode cM_weight 67 = .ok (.iload 4, 2) := by decide +kernel
theorem dM_weight_69 : decode cM_weight 69 = .ok (.ireturn, 1) := by decide +kernel
theorem tw_3_57 : (Jvm.Cond.instanceMethod ({ cls := "ActSurgeryModel", name := "isSet", desc := "(I)Z" } : Jvm.MethodName)) ∈ x_GT := x_t3 57 rfl rfl
theorem tws_31 : (Jvm.Cond.selects "ActSurgeryModel" ({ cls := "ActSurgeryModel", name := "isSet", desc := "(I)Z" } : Jvm.MethodName) ({ cls := "ActSurgeryModel", name := "isSet", desc := "(I)Z" } : Jvm.MethodName)) ∈ x_GT := x_ts 31 rfl rfl
theorem tw_3_58 : (Jvm.Cond.code ({ cls := "ActSurgeryModel", name := "isSet", desc := "(I)Z" } : Jvm.MethodName) prog_7_method_8_code (2 : Nat) (Option.some Jvm.ClassFile.FieldType.boolean)) ∈ x_GT := x_t3 58 rfl rfl
theorem tw_3_55 : (Jvm.Cond.methodLink "ActSurgeryModel" (59 : Nat) ({ cls := "ActSurgeryModel", name := "isSet", desc := "(I)Z" } : Jvm.MethodName)) ∈ x_GT := x_t3 55 rfl rfl
theorem kM_59 : x_kV "ActSurgeryModel" 59 yM_isSet cM_isSet 2 (some .boolean) 1 5 := ⟨tw_3_57, tws_31, tw_3_58, tw_1_6, tw_3_55, (by decide +kernel), rfl⟩
def fM_weight  (w : x_W) (v0 : Nat) (v1 : Int32) (v2 : Int32) (v3 : Int32) : Option (Int32 × x_W) :=
  (x_ob w v0 5).bind fun _ =>
  (fM_isPlace w v0 v1).bind fun t2 =>
  if t2 = (0 : Int32) then
    some ((-2 : Int32), w)
  else
    (fM_isSet w v0 v2).bind fun t4 =>
    if t4 = (0 : Int32) then
      some ((-2 : Int32), w)
    else
      (x_fr w v0 5 1).bind fun t6 =>
      (x_ai w t6 v1).bind fun t7 =>
      if (v2 &&& (t7 ^^^ (-1 : Int32))) = (0 : Int32) then
        if (fM_isIn v3 (0 : Int32) (16 : Int32)) = (0 : Int32) then
          some ((-2 : Int32), w)
        else
          (x_fr w v0 5 2).bind fun t10 =>
          (x_ai w t10 ((v1 * (64 : Int32)) + v2)).bind fun t11 =>
          (x_pa w t10 ((v1 * (64 : Int32)) + v2) v3).bind fun w12 =>
          some (t11, w12)
      else
        some ((-2 : Int32), w)
set_option maxHeartbeats 4000000 in
set_option maxRecDepth 100000 in
theorem mM_weight (d : Nat) (hd : 4 ≤ d) {K : Option Value → x_W → Prop} {w : x_W} {v0 : Nat} {v1 : Int32} {v2 : Int32} {v3 : Int32} {r : (Int32 × x_W)} (h : fM_weight w v0 v1 v2 v3 = some r) (hK : K (some (.int r.1)) r.2) : x_M yM_weight cM_weight 5 (some .int) d 0 0 [.ref v0, .int v1, .int v2, .int v3] w K := by
  refine x_M.of [some (.ref v0), some (.int v1), some (.int v2), some (.int v3), none] (by decide) rfl (Nat.le_of_ble_eq_true rfl) ?_
  unfold fM_weight at h
  refine g_aload_n 1 (i := 0) dM_weight_0 rfl rfl rfl ?_
  refine g_iload_n 2 (i := 1) dM_weight_1 rfl rfl rfl ?_
  obtain ⟨_, e1, h⟩ := x_bind h
  obtain ⟨t2, e2, h⟩ := x_bind h
  refine g_cV 5 (some (.int t2)) w [.int v1] [] dM_weight_2 rfl (fun _ hK2 => mM_isPlace (d - 1) (by omega) e2 hK2) (x_ob_some e1) kM_55 (x_rm (Nat.le_trans (by decide) hd) (by decide)) ⟨Nat.zero_le _, Nat.zero_le _⟩ (Nat.le_of_ble_eq_true rfl) rfl ?_
  by_cases c3 : t2 = (0 : Int32)
  · rw [if_pos c3] at h
    refine g_if_eq_t 39 dM_weight_5 (by decide) c3 ?_
    refine g_bipush 41 (-2 : Int32) dM_weight_39 rfl (by decide) ?_
    obtain rfl := Option.some.inj h
    exact g_iret rfl dM_weight_41 hK
  · rw [if_neg c3] at h
    refine g_if_eq_f 8 39 dM_weight_5 (by decide) rfl c3 ?_
    refine g_aload_n 9 (i := 0) dM_weight_8 rfl rfl rfl ?_
    refine g_iload_n 10 (i := 2) dM_weight_9 rfl rfl rfl ?_
    obtain ⟨t4, e4, h⟩ := x_bind h
    refine g_cV 13 (some (.int t4)) w [.int v2] [] dM_weight_10 rfl (fun _ hK2 => mM_isSet (d - 1) (by omega) e4 hK2) (x_ob_some e1) kM_59 (x_rm (Nat.le_trans (by decide) hd) (by decide)) ⟨Nat.zero_le _, Nat.zero_le _⟩ (Nat.le_of_ble_eq_true rfl) rfl ?_
    by_cases c5 : t4 = (0 : Int32)
    · rw [if_pos c5] at h
      refine g_if_eq_t 39 dM_weight_13 (by decide) c5 ?_
      refine g_bipush 41 (-2 : Int32) dM_weight_39 rfl (by decide) ?_
      obtain rfl := Option.some.inj h
      exact g_iret rfl dM_weight_41 hK
    · rw [if_neg c5] at h
      refine g_if_eq_f 16 39 dM_weight_13 (by decide) rfl c5 ?_
      refine g_iload_n 17 (i := 2) dM_weight_16 rfl rfl rfl ?_
      refine g_aload_n 18 (i := 0) dM_weight_17 rfl rfl rfl ?_
      obtain ⟨t6, e6, h⟩ := x_bind h
      refine g_getfR 21 5 1 dM_weight_18 rfl x_in5 tw_2_236 rfl (by decide) e6 ?_
      refine g_iload_n 22 (i := 1) dM_weight_21 rfl rfl rfl ?_
      obtain ⟨t7, e7, h⟩ := x_bind h
      refine g_iald 23 dM_weight_22 rfl e7 ?_
      refine g_iconst 24 (-1 : Int32) dM_weight_23 rfl (by decide) ?_
      refine g_ixor 25 dM_weight_24 rfl ?_
      refine g_iand 26 dM_weight_25 rfl ?_
      by_cases c8 : (v2 &&& (t7 ^^^ (-1 : Int32))) = (0 : Int32)
      · rw [if_pos c8] at h
        refine g_if_ne_f 29 39 dM_weight_26 (by decide) rfl c8 ?_
        refine g_iload_n 30 (i := 3) dM_weight_29 rfl rfl rfl ?_
        refine g_iconst 31 (0 : Int32) dM_weight_30 rfl (by decide) ?_
        refine g_bipush 33 (16 : Int32) dM_weight_31 rfl (by decide) ?_
        refine g_cS 36 (some (.int (fM_isIn v3 (0 : Int32) (16 : Int32)))) w [.int v3, .int (0 : Int32), .int (16 : Int32)] [] dM_weight_33 rfl (fun _ hK2 => mM_isIn (d - 1) (by omega) rfl hK2) kM_48 (x_rm (Nat.le_trans (by decide) hd) (by decide)) ⟨Nat.zero_le _, Nat.zero_le _⟩ (Nat.le_of_ble_eq_true rfl) rfl ?_
        by_cases c9 : (fM_isIn v3 (0 : Int32) (16 : Int32)) = (0 : Int32)
        · rw [if_pos c9] at h
          refine g_if_ne_f 39 42 dM_weight_36 (by decide) rfl c9 ?_
          refine g_bipush 41 (-2 : Int32) dM_weight_39 rfl (by decide) ?_
          obtain rfl := Option.some.inj h
          exact g_iret rfl dM_weight_41 hK
        · rw [if_neg c9] at h
          refine g_if_ne_t 42 dM_weight_36 (by decide) c9 ?_
          refine g_aload_n 43 (i := 0) dM_weight_42 rfl rfl rfl ?_
          obtain ⟨t10, e10, h⟩ := x_bind h
          refine g_getfR 46 5 2 dM_weight_43 rfl x_in5 tw_2_237 rfl (by decide) e10 ?_
          refine g_iload_n 47 (i := 1) dM_weight_46 rfl rfl rfl ?_
          refine g_bipush 49 (64 : Int32) dM_weight_47 rfl (by decide) ?_
          refine g_imul 50 dM_weight_49 rfl ?_
          refine g_iload_n 51 (i := 2) dM_weight_50 rfl rfl rfl ?_
          refine g_iadd 52 dM_weight_51 rfl ?_
          obtain ⟨t11, e11, h⟩ := x_bind h
          refine g_iald 53 dM_weight_52 rfl e11 ?_
          refine g_istore 55 [some (.ref v0), some (.int v1), some (.int v2), some (.int v3), some (.int t11)] dM_weight_53 rfl rfl (by decide) ?_
          refine g_aload_n 56 (i := 0) dM_weight_55 rfl rfl rfl ?_
          refine g_getfR 59 5 2 dM_weight_56 rfl x_in5 tw_2_237 rfl (by decide) e10 ?_
          refine g_iload_n 60 (i := 1) dM_weight_59 rfl rfl rfl ?_
          refine g_bipush 62 (64 : Int32) dM_weight_60 rfl (by decide) ?_
          refine g_imul 63 dM_weight_62 rfl ?_
          refine g_iload_n 64 (i := 2) dM_weight_63 rfl rfl rfl ?_
          refine g_iadd 65 dM_weight_64 rfl ?_
          refine g_iload_n 66 (i := 3) dM_weight_65 rfl rfl rfl ?_
          obtain ⟨w12, e12, h⟩ := x_bind h
          refine g_iast 67 dM_weight_66 rfl e12 ?_
          refine g_iload 69 dM_weight_67 rfl rfl ?_
          obtain rfl := Option.some.inj h
          exact g_iret rfl dM_weight_69 hK
      · rw [if_neg c8] at h
        refine g_if_ne_t 39 dM_weight_26 (by decide) c8 ?_
        refine g_bipush 41 (-2 : Int32) dM_weight_39 rfl (by decide) ?_
        obtain rfl := Option.some.inj h
        exact g_iret rfl dM_weight_41 hK
/-! ActSurgeryModel.hide(IZ)I: level X -/
theorem dM_hide_0 : decode cM_hide 0 = .ok (.aload_n 0, 1) := by decide +kernel
theorem dM_hide_1 : decode cM_hide 1 = .ok (.iload_n 1, 1) := by decide +kernel
theorem dM_hide_2 : decode cM_hide 2 = .ok (.invokevirtual 55, 3) := by decide +kernel
theorem dM_hide_5 : decode cM_hide 5 = .ok (.ifCond .ne 6, 3) := by decide +kernel
theorem dM_hide_8 : decode cM_hide 8 = .ok (.bipush (-2), 2) := by decide +kernel
theorem dM_hide_10 : decode cM_hide 10 = .ok (.ireturn, 1) := by decide +kernel
theorem dM_hide_11 : decode cM_hide 11 = .ok (.aload_n 0, 1) := by decide +kernel
theorem dM_hide_12 : decode cM_hide 12 = .ok (.getfield 19, 3) := by decide +kernel
theorem dM_hide_15 : decode cM_hide 15 = .ok (.iconst 0, 1) := by decide +kernel
theorem dM_hide_16 : decode cM_hide 16 = .ok (.iaload, 1) := by decide +kernel
theorem dM_hide_17 : decode cM_hide 17 = .ok (.iload_n 1, 1) := by decide +kernel
theorem dM_hide_18 : decode cM_hide 18 = .ok (.ishr, 1) := by decide +kernel
theorem dM_hide_19 : decode cM_hide 19 = .ok (.iconst 1, 1) := by decide +kernel
theorem dM_hide_20 : decode cM_hide 20 = .ok (.iand, 1) := by decide +kernel
theorem dM_hide_21 : decode cM_hide 21 = .ok (.istore_n 3, 1) := by decide +kernel
theorem dM_hide_22 : decode cM_hide 22 = .ok (.aload_n 0, 1) := by decide +kernel
theorem dM_hide_23 : decode cM_hide 23 = .ok (.getfield 19, 3) := by decide +kernel
theorem dM_hide_26 : decode cM_hide 26 = .ok (.iconst 0, 1) := by decide +kernel
theorem dM_hide_27 : decode cM_hide 27 = .ok (.iload_n 2, 1) := by decide +kernel
theorem dM_hide_28 : decode cM_hide 28 = .ok (.ifCond .eq 16, 3) := by decide +kernel
theorem dM_hide_31 : decode cM_hide 31 = .ok (.aload_n 0, 1) := by decide +kernel
theorem dM_hide_32 : decode cM_hide 32 = .ok (.getfield 19, 3) := by decide +kernel
theorem dM_hide_35 : decode cM_hide 35 = .ok (.iconst 0, 1) := by decide +kernel
theorem dM_hide_36 : decode cM_hide 36 = .ok (.iaload, 1) := by decide +kernel
theorem dM_hide_37 : decode cM_hide 37 = .ok (.iconst 1, 1) := by decide +kernel
theorem dM_hide_38 : decode cM_hide 38 = .ok (.iload_n 1, 1) := by decide +kernel
theorem dM_hide_39 : decode cM_hide 39 = .ok (.ishl, 1) := by decide +kernel
theorem dM_hide_40 : decode cM_hide 40 = .ok (.ior, 1) := by decide +kernel
theorem dM_hide_41 : decode cM_hide 41 = .ok (.goto 15, 3) := by decide +kernel
theorem dM_hide_44 : decode cM_hide 44 = .ok (.aload_n 0, 1) := by decide +kernel
theorem dM_hide_45 : decode cM_hide 45 = .ok (.getfield 19, 3) := by decide +kernel
theorem dM_hide_48 : decode cM_hide 48 = .ok (.iconst 0, 1) := by decide +kernel
theorem dM_hide_49 : decode cM_hide 49 = .ok (.iaload, 1) := by decide +kernel
theorem dM_hide_50 : decode cM_hide 50 = .ok (.iconst 1, 1) := by decide +kernel
theorem dM_hide_51 : decode cM_hide 51 = .ok (.iload_n 1, 1) := by decide +kernel
theorem dM_hide_52 : decode cM_hide 52 = .ok (.ishl, 1) := by decide +kernel
theorem dM_hide_53 : decode cM_hide 53 = .ok (.iconst (-1), 1) := by decide +kernel
theorem dM_hide_54 : decode cM_hide 54 = .ok (.ixor, 1) := by decide +kernel
theorem dM_hide_55 : decode cM_hide 55 = .ok (.iand, 1) := by decide +kernel
theorem dM_hide_56 : decode cM_hide 56 = .ok (.iastore, 1) := by decide +kernel
theorem dM_hide_57 : decode cM_hide 57 = .ok (.iload_n 3, 1) := by decide +kernel
theorem dM_hide_58 : decode cM_hide 58 = .ok (.ireturn, 1) := by decide +kernel
def fM_hide  (w : x_W) (v0 : Nat) (v1 : Int32) (v2 : Int32) : Option (Int32 × x_W) :=
  (x_ob w v0 5).bind fun _ =>
  (fM_isPlace w v0 v1).bind fun t2 =>
  if t2 = (0 : Int32) then
    some ((-2 : Int32), w)
  else
    (x_fr w v0 5 3).bind fun t4 =>
    (x_ai w t4 (0 : Int32)).bind fun t5 =>
    if v2 = (0 : Int32) then
      (x_pa w t4 (0 : Int32) (t5 &&& (((1 : Int32) <<< (v1 &&& 31)) ^^^ (-1 : Int32)))).bind fun w7 =>
      some (((t5 >>> (v1 &&& 31)) &&& (1 : Int32)), w7)
    else
      (x_pa w t4 (0 : Int32) (t5 ||| ((1 : Int32) <<< (v1 &&& 31)))).bind fun w8 =>
      some (((t5 >>> (v1 &&& 31)) &&& (1 : Int32)), w8)
set_option maxHeartbeats 4000000 in
set_option maxRecDepth 100000 in
theorem mM_hide (d : Nat) (hd : 3 ≤ d) {K : Option Value → x_W → Prop} {w : x_W} {v0 : Nat} {v1 : Int32} {v2 : Int32} {r : (Int32 × x_W)} (h : fM_hide w v0 v1 v2 = some r) (hK : K (some (.int r.1)) r.2) : x_M yM_hide cM_hide 4 (some .int) d 0 0 [.ref v0, .int v1, .int v2] w K := by
  refine x_M.of [some (.ref v0), some (.int v1), some (.int v2), none] (by decide) rfl (Nat.le_of_ble_eq_true rfl) ?_
  unfold fM_hide at h
  refine g_aload_n 1 (i := 0) dM_hide_0 rfl rfl rfl ?_
  refine g_iload_n 2 (i := 1) dM_hide_1 rfl rfl rfl ?_
  obtain ⟨_, e1, h⟩ := x_bind h
  obtain ⟨t2, e2, h⟩ := x_bind h
  refine g_cV 5 (some (.int t2)) w [.int v1] [] dM_hide_2 rfl (fun _ hK2 => mM_isPlace (d - 1) (by omega) e2 hK2) (x_ob_some e1) kM_55 (x_rm (Nat.le_trans (by decide) hd) (by decide)) ⟨Nat.zero_le _, Nat.zero_le _⟩ (Nat.le_of_ble_eq_true rfl) rfl ?_
  by_cases c3 : t2 = (0 : Int32)
  · rw [if_pos c3] at h
    refine g_if_ne_f 8 11 dM_hide_5 (by decide) rfl c3 ?_
    refine g_bipush 10 (-2 : Int32) dM_hide_8 rfl (by decide) ?_
    obtain rfl := Option.some.inj h
    exact g_iret rfl dM_hide_10 hK
  · rw [if_neg c3] at h
    refine g_if_ne_t 11 dM_hide_5 (by decide) c3 ?_
    refine g_aload_n 12 (i := 0) dM_hide_11 rfl rfl rfl ?_
    obtain ⟨t4, e4, h⟩ := x_bind h
    refine g_getfR 15 5 3 dM_hide_12 rfl x_in5 tw_2_238 rfl (by decide) e4 ?_
    refine g_iconst 16 (0 : Int32) dM_hide_15 rfl (by decide) ?_
    obtain ⟨t5, e5, h⟩ := x_bind h
    refine g_iald 17 dM_hide_16 rfl e5 ?_
    refine g_iload_n 18 (i := 1) dM_hide_17 rfl rfl rfl ?_
    refine g_ishr 19 dM_hide_18 rfl ?_
    refine g_iconst 20 (1 : Int32) dM_hide_19 rfl (by decide) ?_
    refine g_iand 21 dM_hide_20 rfl ?_
    refine g_istore_n 22 (i := 3) [some (.ref v0), some (.int v1), some (.int v2), some (.int ((t5 >>> (v1 &&& 31)) &&& (1 : Int32)))] dM_hide_21 rfl rfl rfl (by decide) ?_
    refine g_aload_n 23 (i := 0) dM_hide_22 rfl rfl rfl ?_
    refine g_getfR 26 5 3 dM_hide_23 rfl x_in5 tw_2_238 rfl (by decide) e4 ?_
    refine g_iconst 27 (0 : Int32) dM_hide_26 rfl (by decide) ?_
    refine g_iload_n 28 (i := 2) dM_hide_27 rfl rfl rfl ?_
    by_cases c6 : v2 = (0 : Int32)
    · rw [if_pos c6] at h
      refine g_if_eq_t 44 dM_hide_28 (by decide) c6 ?_
      refine g_aload_n 45 (i := 0) dM_hide_44 rfl rfl rfl ?_
      refine g_getfR 48 5 3 dM_hide_45 rfl x_in5 tw_2_238 rfl (by decide) e4 ?_
      refine g_iconst 49 (0 : Int32) dM_hide_48 rfl (by decide) ?_
      refine g_iald 50 dM_hide_49 rfl e5 ?_
      refine g_iconst 51 (1 : Int32) dM_hide_50 rfl (by decide) ?_
      refine g_iload_n 52 (i := 1) dM_hide_51 rfl rfl rfl ?_
      refine g_ishl 53 dM_hide_52 rfl ?_
      refine g_iconst 54 (-1 : Int32) dM_hide_53 rfl (by decide) ?_
      refine g_ixor 55 dM_hide_54 rfl ?_
      refine g_iand 56 dM_hide_55 rfl ?_
      obtain ⟨w7, e7, h⟩ := x_bind h
      refine g_iast 57 dM_hide_56 rfl e7 ?_
      refine g_iload_n 58 (i := 3) dM_hide_57 rfl rfl rfl ?_
      obtain rfl := Option.some.inj h
      exact g_iret rfl dM_hide_58 hK
    · rw [if_neg c6] at h
      refine g_if_eq_f 31 44 dM_hide_28 (by decide) rfl c6 ?_
      refine g_aload_n 32 (i := 0) dM_hide_31 rfl rfl rfl ?_
      refine g_getfR 35 5 3 dM_hide_32 rfl x_in5 tw_2_238 rfl (by decide) e4 ?_
      refine g_iconst 36 (0 : Int32) dM_hide_35 rfl (by decide) ?_
      refine g_iald 37 dM_hide_36 rfl e5 ?_
      refine g_iconst 38 (1 : Int32) dM_hide_37 rfl (by decide) ?_
      refine g_iload_n 39 (i := 1) dM_hide_38 rfl rfl rfl ?_
      refine g_ishl 40 dM_hide_39 rfl ?_
      refine g_ior 41 dM_hide_40 rfl ?_
      refine g_goto 56 dM_hide_41 (by decide) ?_
      obtain ⟨w8, e8, h⟩ := x_bind h
      refine g_iast 57 dM_hide_56 rfl e8 ?_
      refine g_iload_n 58 (i := 3) dM_hide_57 rfl rfl rfl ?_
      obtain rfl := Option.some.inj h
      exact g_iret rfl dM_hide_58 hK
