/-! ActSurgery$Arrows.<init>()V: level X -/
theorem dR_init_0 : decode cR_init 0 = .ok (.aload_n 0, 1) := by decide +kernel
theorem dR_init_1 : decode cR_init 1 = .ok (.invokespecial 3, 3) := by decide +kernel
theorem dR_init_4 : decode cR_init 4 = .ok (.aload_n 0, 1) := by decide +kernel
theorem dR_init_5 : decode cR_init 5 = .ok (.bipush 6, 2) := by decide +kernel
theorem dR_init_7 : decode cR_init 7 = .ok (.newarray .int, 2) := by decide +kernel
theorem dR_init_9 : decode cR_init 9 = .ok (.putfield 9, 3) := by decide +kernel
theorem dR_init_12 : decode cR_init 12 = .ok (.return_, 1) := by decide +kernel
theorem tw_1_29 : (Jvm.Cond.methodLink "ActSurgery$Arrows" (3 : Nat) ({ cls := "java/lang/Object", name := "<init>", desc := "()V" } : Jvm.MethodName)) ∈ x_GT := x_t1 29 rfl rfl
theorem tw_1_16 : (Jvm.Cond.instanceMethod ({ cls := "java/lang/Object", name := "<init>", desc := "()V" } : Jvm.MethodName)) ∈ x_GT := x_t1 16 rfl rfl
theorem tw_1_17 : (Jvm.Cond.code ({ cls := "java/lang/Object", name := "<init>", desc := "()V" } : Jvm.MethodName) object_method_1_code (1 : Nat) (Option.none : Option Jvm.ClassFile.FieldType)) ∈ x_GT := x_t1 17 rfl rfl
theorem tw_1_34 : (Jvm.Cond.fieldLink "ActSurgery$Arrows" (9 : Nat) "ActSurgery$Arrows" "parents" "[I") ∈ x_GT := x_t1 34 rfl rfl
def fR_init  (w : x_W) (v0 : Nat) : Option x_W :=
  (x_pf (w ++ [.inl (6, fun _ => 0)]) v0 1 1 (.ref w.length)).bind fun w2 =>
  some w2
set_option maxHeartbeats 4000000 in
set_option maxRecDepth 100000 in
theorem mR_init (d : Nat) (hd : 1 ≤ d) {K : Option Value → x_W → Prop} {w : x_W} {v0 : Nat} {r : x_W} (h : fR_init w v0 = some r) (hK : K none r) : x_M yR_init cR_init 1 none d 1 6 [.ref v0] w K := by
  refine x_M.of [some (.ref v0)] (by decide) rfl (Nat.le_of_ble_eq_true rfl) ?_
  unfold fR_init at h
  refine g_aload_n 1 (i := 0) dR_init_0 rfl rfl rfl ?_
  refine g_objInit 4 dR_init_1 rfl tw_1_29 tw_1_16 tw_1_17 (x_r1 (Nat.le_trans (by decide) hd)) (x_r60 (Nat.le_trans (by decide) hd)) (Nat.le_of_ble_eq_true rfl) ?_
  refine g_aload_n 5 (i := 0) dR_init_4 rfl rfl rfl ?_
  refine g_bipush 7 (6 : Int32) dR_init_5 rfl (by decide) ?_
  refine g_newa 9 6 dR_init_7 rfl x_arr (by decide) (by decide) (by decide) (Nat.le_of_ble_eq_true rfl) (Nat.le_of_ble_eq_true rfl) ?_
  obtain ⟨w2, e2, h⟩ := x_bind h
  refine g_putfF 12 1 1 xy1 xy1_ok xn1 dR_init_9 rfl x_in1 tw_1_34 rfl (by decide) rfl rfl rfl (fun _ _ => ⟨rfl, rfl⟩) e2 ?_
  obtain rfl := Option.some.inj h
  exact g_vret rfl dR_init_12 hK
/-! ActSurgery$Graph.putWeight(III)V: level X -/
theorem dG_putWeight_0 : decode cG_putWeight 0 = .ok (.aload_n 0, 1) := by decide +kernel
theorem dG_putWeight_1 : decode cG_putWeight 1 = .ok (.getfield 18, 3) := by decide +kernel
theorem dG_putWeight_4 : decode cG_putWeight 4 = .ok (.iload_n 1, 1) := by decide +kernel
theorem dG_putWeight_5 : decode cG_putWeight 5 = .ok (.bipush 32, 2) := by decide +kernel
theorem dG_putWeight_7 : decode cG_putWeight 7 = .ok (.imul, 1) := by decide +kernel
theorem dG_putWeight_8 : decode cG_putWeight 8 = .ok (.iload_n 2, 1) := by decide +kernel
theorem dG_putWeight_9 : decode cG_putWeight 9 = .ok (.iadd, 1) := by decide +kernel
theorem dG_putWeight_10 : decode cG_putWeight 10 = .ok (.iload_n 3, 1) := by decide +kernel
theorem dG_putWeight_11 : decode cG_putWeight 11 = .ok (.iastore, 1) := by decide +kernel
theorem dG_putWeight_12 : decode cG_putWeight 12 = .ok (.return_, 1) := by decide +kernel
theorem tw_1_58 : (Jvm.Cond.fieldLink "ActSurgery$Graph" (18 : Nat) "ActSurgery$Graph" "weights" "[I") ∈ x_GT := x_t1 58 rfl rfl
def fG_putWeight  (w : x_W) (v0 : Nat) (v1 : Int32) (v2 : Int32) (v3 : Int32) : Option x_W :=
  (x_fr w v0 2 1).bind fun t1 =>
  (x_pa w t1 ((v1 * (32 : Int32)) + v2) v3).bind fun w2 =>
  some w2
set_option maxHeartbeats 4000000 in
set_option maxRecDepth 100000 in
theorem mG_putWeight (d : Nat) (hd : 1 ≤ d) {K : Option Value → x_W → Prop} {w : x_W} {v0 : Nat} {v1 : Int32} {v2 : Int32} {v3 : Int32} {r : x_W} (h : fG_putWeight w v0 v1 v2 v3 = some r) (hK : K none r) : x_M yG_putWeight cG_putWeight 4 none d 0 0 [.ref v0, .int v1, .int v2, .int v3] w K := by
  refine x_M.of [some (.ref v0), some (.int v1), some (.int v2), some (.int v3)] (by decide) rfl (Nat.le_of_ble_eq_true rfl) ?_
  unfold fG_putWeight at h
  refine g_aload_n 1 (i := 0) dG_putWeight_0 rfl rfl rfl ?_
  obtain ⟨t1, e1, h⟩ := x_bind h
  refine g_getfR 4 2 1 dG_putWeight_1 rfl x_in2 tw_1_58 rfl (by decide) e1 ?_
  refine g_iload_n 5 (i := 1) dG_putWeight_4 rfl rfl rfl ?_
  refine g_bipush 7 (32 : Int32) dG_putWeight_5 rfl (by decide) ?_
  refine g_imul 8 dG_putWeight_7 rfl ?_
  refine g_iload_n 9 (i := 2) dG_putWeight_8 rfl rfl rfl ?_
  refine g_iadd 10 dG_putWeight_9 rfl ?_
  refine g_iload_n 11 (i := 3) dG_putWeight_10 rfl rfl rfl ?_
  obtain ⟨w2, e2, h⟩ := x_bind h
  refine g_iast 12 dG_putWeight_11 rfl e2 ?_
  obtain rfl := Option.some.inj h
  exact g_vret rfl dG_putWeight_12 hK
/-! ActSurgery$Graph.putParents(II)V: level X -/
theorem dG_putParents_0 : decode cG_putParents 0 = .ok (.aload_n 0, 1) := by decide +kernel
theorem dG_putParents_1 : decode cG_putParents 1 = .ok (.getfield 12, 3) := by decide +kernel
theorem dG_putParents_4 : decode cG_putParents 4 = .ok (.getfield 47, 3) := by decide +kernel
theorem dG_putParents_7 : decode cG_putParents 7 = .ok (.iload_n 1, 1) := by decide +kernel
theorem dG_putParents_8 : decode cG_putParents 8 = .ok (.iload_n 2, 1) := by decide +kernel
theorem dG_putParents_9 : decode cG_putParents 9 = .ok (.iastore, 1) := by decide +kernel
theorem dG_putParents_10 : decode cG_putParents 10 = .ok (.iconst 0, 1) := by decide +kernel
theorem dG_putParents_11 : decode cG_putParents 11 = .ok (.istore_n 3, 1) := by decide +kernel
theorem dG_putParents_12 : decode cG_putParents 12 = .ok (.iload_n 3, 1) := by decide +kernel
theorem dG_putParents_13 : decode cG_putParents 13 = .ok (.bipush 32, 2) := by decide +kernel
theorem dG_putParents_15 : decode cG_putParents 15 = .ok (.if_icmp .ge 17, 3) := by decide +kernel
theorem dG_putParents_18 : decode cG_putParents 18 = .ok (.aload_n 0, 1) := by decide +kernel
theorem dG_putParents_19 : decode cG_putParents 19 = .ok (.iload_n 1, 1) := by decide +kernel
theorem dG_putParents_20 : decode cG_putParents 20 = .ok (.iload_n 3, 1) := by decide +kernel
theorem dG_putParents_21 : decode cG_putParents 21 = .ok (.bipush 8, 2) := by decide +kernel
theorem dG_putParents_23 : decode cG_putParents 23 = .ok (.invokevirtual 50, 3) := by decide +kernel
theorem dG_putParents_26 : decode cG_putParents 26 = .ok (.iinc 3 1, 3) := by decide +kernel
theorem dG_putParents_29 : decode cG_putParents 29 = .ok (.goto (-17), 3) := by decide +kernel
theorem dG_putParents_32 : decode cG_putParents 32 = .ok (.return_, 1) := by decide +kernel
theorem tw_1_53 : (Jvm.Cond.instanceMethod ({ cls := "ActSurgery$Graph", name := "putWeight", desc := "(III)V" } : Jvm.MethodName)) ∈ x_GT := x_t1 53 rfl rfl
theorem tw_1_54 : (Jvm.Cond.selects "ActSurgery$Graph" ({ cls := "ActSurgery$Graph", name := "putWeight", desc := "(III)V" } : Jvm.MethodName) ({ cls := "ActSurgery$Graph", name := "putWeight", desc := "(III)V" } : Jvm.MethodName)) ∈ x_GT := x_t1 54 rfl rfl
theorem tw_1_55 : (Jvm.Cond.code ({ cls := "ActSurgery$Graph", name := "putWeight", desc := "(III)V" } : Jvm.MethodName) prog_3_method_5_code (4 : Nat) (Option.none : Option Jvm.ClassFile.FieldType)) ∈ x_GT := x_t1 55 rfl rfl
theorem tw_1_2 : (Jvm.Cond.initialized "ActSurgery$Graph") ∈ x_GT := x_t1 2 rfl rfl
theorem tw_1_52 : (Jvm.Cond.methodLink "ActSurgery$Graph" (50 : Nat) ({ cls := "ActSurgery$Graph", name := "putWeight", desc := "(III)V" } : Jvm.MethodName)) ∈ x_GT := x_t1 52 rfl rfl
theorem kG_50 : x_kV "ActSurgery$Graph" 50 yG_putWeight cG_putWeight 4 none 3 2 := ⟨tw_1_53, tw_1_54, tw_1_55, tw_1_2, tw_1_52, (by decide +kernel), rfl⟩
theorem tw_1_56 : (Jvm.Cond.fieldLink "ActSurgery$Graph" (12 : Nat) "ActSurgery$Graph" "arrows" "LActSurgery$Arrows;") ∈ x_GT := x_t1 56 rfl rfl
theorem tw_1_37 : (Jvm.Cond.fieldLink "ActSurgery$Graph" (47 : Nat) "ActSurgery$Arrows" "parents" "[I") ∈ x_GT := x_t1 37 rfl rfl
def fG_putParents_12  : Nat → x_W → Nat → Int32 → Int32 → Option x_W
  | 0, _, _, _, _ => none
  | n + 1, w, v0, v1, v3 =>
    if (32 : Int32) ≤ v3 then
      some w
    else
      (x_ob w v0 2).bind fun _ =>
      (fG_putWeight w v0 v1 v3 (8 : Int32)).bind fun w3 =>
      fG_putParents_12 n w3 v0 v1 (v3 + (1 : Int32))
def fG_putParents  (w : x_W) (v0 : Nat) (v1 : Int32) (v2 : Int32) : Option x_W :=
  (x_fr w v0 2 0).bind fun t1 =>
  (x_fr w t1 1 1).bind fun t2 =>
  (x_pa w t2 v1 v2).bind fun w3 =>
  fG_putParents_12 x_F w3 v0 v1 (0 : Int32)
set_option maxHeartbeats 4000000 in
set_option maxRecDepth 100000 in
theorem lG_putParents_12 (d : Nat) (hd : 2 ≤ d) {K : Option Value → x_W → Prop} {r : x_W} (hK : K none r) : ∀ (n : Nat) (w : x_W) (v0 : Nat) (v1 : Int32) (v3 : Int32), fG_putParents_12 n w v0 v1 v3 = some r → x_G none yG_putParents cG_putParents 4 none (x_room d 0 0) (x_QM K 0 0) 12 [some (.ref v0), some (.int v1), none, some (.int v3)] [] w 0 0 := by
  intro n
  induction n with
  | zero => intro w v0 v1 v3 h; rw [fG_putParents_12] at h; cases h
  | succ n ih =>
    intro w v0 v1 v3 h
    rw [fG_putParents_12] at h
    refine g_iload_n 13 (i := 3) dG_putParents_12 rfl rfl rfl ?_
    refine g_bipush 15 (32 : Int32) dG_putParents_13 rfl (by decide) ?_
    by_cases c1 : (32 : Int32) ≤ v3
    · rw [if_pos c1] at h
      refine g_icmp_ge_t 32 dG_putParents_15 (by decide) c1 ?_
      obtain rfl := Option.some.inj h
      exact g_vret rfl dG_putParents_32 hK
    · rw [if_neg c1] at h
      refine g_icmp_ge_f 18 32 dG_putParents_15 (by decide) rfl c1 ?_
      refine g_aload_n 19 (i := 0) dG_putParents_18 rfl rfl rfl ?_
      refine g_iload_n 20 (i := 1) dG_putParents_19 rfl rfl rfl ?_
      refine g_iload_n 21 (i := 3) dG_putParents_20 rfl rfl rfl ?_
      refine g_bipush 23 (8 : Int32) dG_putParents_21 rfl (by decide) ?_
      obtain ⟨_, e2, h⟩ := x_bind h
      obtain ⟨w3, e3, h⟩ := x_bind h
      refine g_cV 26 none w3 [.int v1, .int v3, .int (8 : Int32)] [] dG_putParents_23 rfl (fun _ hK2 => mG_putWeight (d - 1) (by omega) e3 hK2) (x_ob_some e2) kG_50 (x_rm (Nat.le_trans (by decide) hd) (by decide)) ⟨Nat.zero_le _, Nat.zero_le _⟩ (Nat.le_of_ble_eq_true rfl) rfl ?_
      refine g_iinc 29 [some (.ref v0), some (.int v1), none, some (.int (v3 + (1 : Int32)))] dG_putParents_26 rfl rfl (x_inc (1 : Int32) (by decide)) rfl (by decide) ?_
      refine g_goto 12 dG_putParents_29 (by decide) ?_
      exact ih _ _ _ _ h
set_option maxHeartbeats 4000000 in
set_option maxRecDepth 100000 in
theorem mG_putParents (d : Nat) (hd : 2 ≤ d) {K : Option Value → x_W → Prop} {w : x_W} {v0 : Nat} {v1 : Int32} {v2 : Int32} {r : x_W} (h : fG_putParents w v0 v1 v2 = some r) (hK : K none r) : x_M yG_putParents cG_putParents 4 none d 0 0 [.ref v0, .int v1, .int v2] w K := by
  refine x_M.of [some (.ref v0), some (.int v1), some (.int v2), none] (by decide) rfl (Nat.le_of_ble_eq_true rfl) ?_
  unfold fG_putParents at h
  refine g_aload_n 1 (i := 0) dG_putParents_0 rfl rfl rfl ?_
  obtain ⟨t1, e1, h⟩ := x_bind h
  refine g_getfR 4 2 0 dG_putParents_1 rfl x_in2 tw_1_56 rfl (by decide) e1 ?_
  obtain ⟨t2, e2, h⟩ := x_bind h
  refine g_getfR 7 1 1 dG_putParents_4 rfl x_in1 tw_1_37 rfl (by decide) e2 ?_
  refine g_iload_n 8 (i := 1) dG_putParents_7 rfl rfl rfl ?_
  refine g_iload_n 9 (i := 2) dG_putParents_8 rfl rfl rfl ?_
  obtain ⟨w3, e3, h⟩ := x_bind h
  refine g_iast 10 dG_putParents_9 rfl e3 ?_
  refine g_iconst 11 (0 : Int32) dG_putParents_10 rfl (by decide) ?_
  refine g_istore_n 12 (i := 3) [some (.ref v0), some (.int v1), some (.int v2), some (.int (0 : Int32))] dG_putParents_11 rfl rfl rfl (by decide) ?_
  refine g_less [some (.ref v0), some (.int v1), none, some (.int (0 : Int32))] ⟨rfl, rfl, rfl, trivial⟩ ?_
  exact lG_putParents_12 d hd hK x_F _ _ _ _ h
/-! ActSurgery$Graph.restart(I)V: level X -/
theorem dG_restart_0 : decode cG_restart 0 = .ok (.aload_n 0, 1) := by decide +kernel
theorem dG_restart_1 : decode cG_restart 1 = .ok (.getfield 12, 3) := by decide +kernel
theorem dG_restart_4 : decode cG_restart 4 = .ok (.iload_n 1, 1) := by decide +kernel
theorem dG_restart_5 : decode cG_restart 5 = .ok (.putfield 26, 3) := by decide +kernel
theorem dG_restart_8 : decode cG_restart 8 = .ok (.aload_n 0, 1) := by decide +kernel
theorem dG_restart_9 : decode cG_restart 9 = .ok (.iconst 0, 1) := by decide +kernel
theorem dG_restart_10 : decode cG_restart 10 = .ok (.putfield 30, 3) := by decide +kernel
theorem dG_restart_13 : decode cG_restart 13 = .ok (.iconst 0, 1) := by decide +kernel
theorem dG_restart_14 : decode cG_restart 14 = .ok (.istore_n 2, 1) := by decide +kernel
theorem dG_restart_15 : decode cG_restart 15 = .ok (.iload_n 2, 1) := by decide +kernel
theorem dG_restart_16 : decode cG_restart 16 = .ok (.iload_n 1, 1) := by decide +kernel
theorem dG_restart_17 : decode cG_restart 17 = .ok (.if_icmp .ge 15, 3) := by decide +kernel
theorem dG_restart_20 : decode cG_restart 20 = .ok (.aload_n 0, 1) := by decide +kernel
theorem dG_restart_21 : decode cG_restart 21 = .ok (.iload_n 2, 1) := by decide +kernel
theorem dG_restart_22 : decode cG_restart 22 = .ok (.iconst 0, 1) := by decide +kernel
theorem dG_restart_23 : decode cG_restart 23 = .ok (.invokevirtual 33, 3) := by decide +kernel
theorem dG_restart_26 : decode cG_restart 26 = .ok (.iinc 2 1, 3) := by decide +kernel
theorem dG_restart_29 : decode cG_restart 29 = .ok (.goto (-14), 3) := by decide +kernel
theorem dG_restart_32 : decode cG_restart 32 = .ok (.return_, 1) := by decide +kernel
theorem tw_1_49 : (Jvm.Cond.instanceMethod ({ cls := "ActSurgery$Graph", name := "putParents", desc := "(II)V" } : Jvm.MethodName)) ∈ x_GT := x_t1 49 rfl rfl
theorem tw_1_50 : (Jvm.Cond.selects "ActSurgery$Graph" ({ cls := "ActSurgery$Graph", name := "putParents", desc := "(II)V" } : Jvm.MethodName) ({ cls := "ActSurgery$Graph", name := "putParents", desc := "(II)V" } : Jvm.MethodName)) ∈ x_GT := x_t1 50 rfl rfl
theorem tw_1_51 : (Jvm.Cond.code ({ cls := "ActSurgery$Graph", name := "putParents", desc := "(II)V" } : Jvm.MethodName) prog_3_method_4_code (4 : Nat) (Option.none : Option Jvm.ClassFile.FieldType)) ∈ x_GT := x_t1 51 rfl rfl
theorem tw_1_48 : (Jvm.Cond.methodLink "ActSurgery$Graph" (33 : Nat) ({ cls := "ActSurgery$Graph", name := "putParents", desc := "(II)V" } : Jvm.MethodName)) ∈ x_GT := x_t1 48 rfl rfl
theorem kG_33 : x_kV "ActSurgery$Graph" 33 yG_putParents cG_putParents 4 none 2 2 := ⟨tw_1_49, tw_1_50, tw_1_51, tw_1_2, tw_1_48, (by decide +kernel), rfl⟩
theorem tw_1_32 : (Jvm.Cond.fieldLink "ActSurgery$Graph" (26 : Nat) "ActSurgery$Arrows" "size" "I") ∈ x_GT := x_t1 32 rfl rfl
theorem tw_1_59 : (Jvm.Cond.fieldLink "ActSurgery$Graph" (30 : Nat) "ActSurgery$Graph" "hidden" "I") ∈ x_GT := x_t1 59 rfl rfl
def fG_restart_15  : Nat → x_W → Nat → Int32 → Int32 → Option x_W
  | 0, _, _, _, _ => none
  | n + 1, w, v0, v1, v2 =>
    if v1 ≤ v2 then
      some w
    else
      (x_ob w v0 2).bind fun _ =>
      (fG_putParents w v0 v2 (0 : Int32)).bind fun w3 =>
      fG_restart_15 n w3 v0 v1 (v2 + (1 : Int32))
def fG_restart  (w : x_W) (v0 : Nat) (v1 : Int32) : Option x_W :=
  (x_fr w v0 2 0).bind fun t1 =>
  (x_pf w t1 1 0 (.int v1)).bind fun w2 =>
  (x_pf w2 v0 2 2 (.int (0 : Int32))).bind fun w3 =>
  fG_restart_15 x_F w3 v0 v1 (0 : Int32)
set_option maxHeartbeats 4000000 in
set_option maxRecDepth 100000 in
theorem lG_restart_15 (d : Nat) (hd : 3 ≤ d) {K : Option Value → x_W → Prop} {r : x_W} (hK : K none r) : ∀ (n : Nat) (w : x_W) (v0 : Nat) (v1 : Int32) (v2 : Int32), fG_restart_15 n w v0 v1 v2 = some r → x_G none yG_restart cG_restart 3 none (x_room d 0 0) (x_QM K 0 0) 15 [some (.ref v0), some (.int v1), some (.int v2)] [] w 0 0 := by
  intro n
  induction n with
  | zero => intro w v0 v1 v2 h; rw [fG_restart_15] at h; cases h
  | succ n ih =>
    intro w v0 v1 v2 h
    rw [fG_restart_15] at h
    refine g_iload_n 16 (i := 2) dG_restart_15 rfl rfl rfl ?_
    refine g_iload_n 17 (i := 1) dG_restart_16 rfl rfl rfl ?_
    by_cases c1 : v1 ≤ v2
    · rw [if_pos c1] at h
      refine g_icmp_ge_t 32 dG_restart_17 (by decide) c1 ?_
      obtain rfl := Option.some.inj h
      exact g_vret rfl dG_restart_32 hK
    · rw [if_neg c1] at h
      refine g_icmp_ge_f 20 32 dG_restart_17 (by decide) rfl c1 ?_
      refine g_aload_n 21 (i := 0) dG_restart_20 rfl rfl rfl ?_
      refine g_iload_n 22 (i := 2) dG_restart_21 rfl rfl rfl ?_
      refine g_iconst 23 (0 : Int32) dG_restart_22 rfl (by decide) ?_
      obtain ⟨_, e2, h⟩ := x_bind h
      obtain ⟨w3, e3, h⟩ := x_bind h
      refine g_cV 26 none w3 [.int v2, .int (0 : Int32)] [] dG_restart_23 rfl (fun _ hK2 => mG_putParents (d - 1) (by omega) e3 hK2) (x_ob_some e2) kG_33 (x_rm (Nat.le_trans (by decide) hd) (by decide)) ⟨Nat.zero_le _, Nat.zero_le _⟩ (Nat.le_of_ble_eq_true rfl) rfl ?_
      refine g_iinc 29 [some (.ref v0), some (.int v1), some (.int (v2 + (1 : Int32)))] dG_restart_26 rfl rfl (x_inc (1 : Int32) (by decide)) rfl (by decide) ?_
      refine g_goto 15 dG_restart_29 (by decide) ?_
      exact ih _ _ _ _ h
set_option maxHeartbeats 4000000 in
set_option maxRecDepth 100000 in
theorem mG_restart (d : Nat) (hd : 3 ≤ d) {K : Option Value → x_W → Prop} {w : x_W} {v0 : Nat} {v1 : Int32} {r : x_W} (h : fG_restart w v0 v1 = some r) (hK : K none r) : x_M yG_restart cG_restart 3 none d 0 0 [.ref v0, .int v1] w K := by
  refine x_M.of [some (.ref v0), some (.int v1), none] (by decide) rfl (Nat.le_of_ble_eq_true rfl) ?_
  unfold fG_restart at h
  refine g_aload_n 1 (i := 0) dG_restart_0 rfl rfl rfl ?_
  obtain ⟨t1, e1, h⟩ := x_bind h
  refine g_getfR 4 2 0 dG_restart_1 rfl x_in2 tw_1_56 rfl (by decide) e1 ?_
  refine g_iload_n 5 (i := 1) dG_restart_4 rfl rfl rfl ?_
  obtain ⟨w2, e2, h⟩ := x_bind h
  refine g_putf 8 1 0 xy1 xy1_ok xn1 dG_restart_5 rfl x_in1 tw_1_32 rfl (by decide) rfl (fun _ _ => ⟨rfl, rfl⟩) e2 ?_
  refine g_aload_n 9 (i := 0) dG_restart_8 rfl rfl rfl ?_
  refine g_iconst 10 (0 : Int32) dG_restart_9 rfl (by decide) ?_
  obtain ⟨w3, e3, h⟩ := x_bind h
  refine g_putf 13 2 2 xy2 xy2_ok xn2 dG_restart_10 rfl x_in2 tw_1_59 rfl (by decide) rfl (fun _ _ => ⟨rfl, rfl⟩) e3 ?_
  refine g_iconst 14 (0 : Int32) dG_restart_13 rfl (by decide) ?_
  refine g_istore_n 15 (i := 2) [some (.ref v0), some (.int v1), some (.int (0 : Int32))] dG_restart_14 rfl rfl rfl (by decide) ?_
  exact lG_restart_15 d hd hK x_F _ _ _ _ h
/-! ActSurgery$Graph.<init>()V: level X -/
theorem dG_init_0 : decode cG_init 0 = .ok (.aload_n 0, 1) := by decide +kernel
theorem dG_init_1 : decode cG_init 1 = .ok (.invokespecial 3, 3) := by decide +kernel
theorem dG_init_4 : decode cG_init 4 = .ok (.aload_n 0, 1) := by decide +kernel
theorem dG_init_5 : decode cG_init 5 = .ok (.new 9, 3) := by decide +kernel
theorem dG_init_8 : decode cG_init 8 = .ok (.dup, 1) := by decide +kernel
theorem dG_init_9 : decode cG_init 9 = .ok (.invokespecial 11, 3) := by decide +kernel
theorem dG_init_12 : decode cG_init 12 = .ok (.putfield 12, 3) := by decide +kernel
theorem dG_init_15 : decode cG_init 15 = .ok (.aload_n 0, 1) := by decide +kernel
theorem dG_init_16 : decode cG_init 16 = .ok (.sipush 192, 3) := by decide +kernel
theorem dG_init_19 : decode cG_init 19 = .ok (.newarray .int, 2) := by decide +kernel
theorem dG_init_21 : decode cG_init 21 = .ok (.putfield 18, 3) := by decide +kernel
theorem dG_init_24 : decode cG_init 24 = .ok (.aload_n 0, 1) := by decide +kernel
theorem dG_init_25 : decode cG_init 25 = .ok (.iconst 1, 1) := by decide +kernel
theorem dG_init_26 : decode cG_init 26 = .ok (.invokevirtual 22, 3) := by decide +kernel
theorem dG_init_29 : decode cG_init 29 = .ok (.return_, 1) := by decide +kernel
theorem tw_1_23 : (Jvm.Cond.methodLink "ActSurgery$Graph" (3 : Nat) ({ cls := "java/lang/Object", name := "<init>", desc := "()V" } : Jvm.MethodName)) ∈ x_GT := x_t1 23 rfl rfl
theorem tw_1_24 : (Jvm.Cond.classLink "ActSurgery$Graph" (9 : Nat) "ActSurgery$Arrows") ∈ x_GT := x_t1 24 rfl rfl
theorem tw_1_25 : (Jvm.Cond.instantiable "ActSurgery$Arrows" (2 : Nat)) ∈ x_GT := x_t1 25 rfl rfl
theorem tw_1_3 : (Jvm.Cond.initialized "ActSurgery$Arrows") ∈ x_GT := x_t1 3 rfl rfl
theorem tw_1_27 : (Jvm.Cond.instanceMethod ({ cls := "ActSurgery$Arrows", name := "<init>", desc := "()V" } : Jvm.MethodName)) ∈ x_GT := x_t1 27 rfl rfl
theorem tw_1_28 : (Jvm.Cond.code ({ cls := "ActSurgery$Arrows", name := "<init>", desc := "()V" } : Jvm.MethodName) prog_2_method_1_code (1 : Nat) (Option.none : Option Jvm.ClassFile.FieldType)) ∈ x_GT := x_t1 28 rfl rfl
theorem kG_11 : x_kIN "ActSurgery$Graph" 11 yR_init cR_init 1 0 "ActSurgery" := ⟨rfl, tw_1_27, tw_1_28, tw_1_3, (List.mem_of_getElem? (i := 0) rfl), (by decide +kernel)⟩
theorem tw_1_45 : (Jvm.Cond.instanceMethod ({ cls := "ActSurgery$Graph", name := "restart", desc := "(I)V" } : Jvm.MethodName)) ∈ x_GT := x_t1 45 rfl rfl
theorem tw_1_46 : (Jvm.Cond.selects "ActSurgery$Graph" ({ cls := "ActSurgery$Graph", name := "restart", desc := "(I)V" } : Jvm.MethodName) ({ cls := "ActSurgery$Graph", name := "restart", desc := "(I)V" } : Jvm.MethodName)) ∈ x_GT := x_t1 46 rfl rfl
theorem tw_1_47 : (Jvm.Cond.code ({ cls := "ActSurgery$Graph", name := "restart", desc := "(I)V" } : Jvm.MethodName) prog_3_method_2_code (3 : Nat) (Option.none : Option Jvm.ClassFile.FieldType)) ∈ x_GT := x_t1 47 rfl rfl
theorem tw_1_44 : (Jvm.Cond.methodLink "ActSurgery$Graph" (22 : Nat) ({ cls := "ActSurgery$Graph", name := "restart", desc := "(I)V" } : Jvm.MethodName)) ∈ x_GT := x_t1 44 rfl rfl
theorem kG_22 : x_kV "ActSurgery$Graph" 22 yG_restart cG_restart 3 none 1 2 := ⟨tw_1_45, tw_1_46, tw_1_47, tw_1_2, tw_1_44, (by decide +kernel), rfl⟩
def fG_init  (w : x_W) (v0 : Nat) : Option x_W :=
  (fR_init (w ++ [.inr (1, [.int 0, .null])]) w.length).bind fun w1 =>
  (x_pf w1 v0 2 0 (.ref w.length)).bind fun w2 =>
  (x_pf (w2 ++ [.inl (192, fun _ => 0)]) v0 2 1 (.ref w2.length)).bind fun w4 =>
  (x_ob w4 v0 2).bind fun _ =>
  (fG_restart w4 v0 (1 : Int32)).bind fun w6 =>
  some w6
set_option maxHeartbeats 4000000 in
set_option maxRecDepth 100000 in
theorem mG_init (d : Nat) (hd : 4 ≤ d) {K : Option Value → x_W → Prop} {w : x_W} {v0 : Nat} {r : x_W} (h : fG_init w v0 = some r) (hK : K none r) : x_M yG_init cG_init 1 none d 3 200 [.ref v0] w K := by
  refine x_M.of [some (.ref v0)] (by decide) rfl (Nat.le_of_ble_eq_true rfl) ?_
  unfold fG_init at h
  refine g_aload_n 1 (i := 0) dG_init_0 rfl rfl rfl ?_
  refine g_objInit 4 dG_init_1 rfl tw_1_23 tw_1_16 tw_1_17 (x_r1 (Nat.le_trans (by decide) hd)) (x_r60 (Nat.le_trans (by decide) hd)) (Nat.le_of_ble_eq_true rfl) ?_
  refine g_aload_n 5 (i := 0) dG_init_4 rfl rfl rfl ?_
  refine g_new 8 1 xy1 xy1_ok [.int 0, .null] dG_init_5 rfl x_in1 tw_1_24 tw_1_25 tw_1_3 rfl x_df1 (fun _ _ => rfl) (Nat.le_of_ble_eq_true rfl) (Nat.le_of_ble_eq_true rfl) ?_
  refine g_dup 9 dG_init_8 rfl rfl ?_
  obtain ⟨w1, e1, h⟩ := x_bind h
  refine g_cIN 12 none w1 [] [.ref w.length, .ref v0] dG_init_9 rfl (fun _ hK2 => mR_init (d - 1) (by omega) e1 hK2) kG_11 (x_rm (Nat.le_trans (by decide) hd) (by decide)) ⟨Nat.le_of_ble_eq_true rfl, Nat.le_of_ble_eq_true rfl⟩ (Nat.le_of_ble_eq_true rfl) rfl ?_
  obtain ⟨w2, e2, h⟩ := x_bind h
  refine g_putfF 15 2 0 xy2 xy2_ok xn2 dG_init_12 rfl x_in2 tw_1_56 rfl (by decide) rfl rfl rfl (fun _ _ => ⟨rfl, rfl⟩) e2 ?_
  refine g_aload_n 16 (i := 0) dG_init_15 rfl rfl rfl ?_
  refine g_sipush 19 (192 : Int32) dG_init_16 rfl (by decide) ?_
  refine g_newa 21 192 dG_init_19 rfl x_arr (by decide) (by decide) (by decide) (Nat.le_of_ble_eq_true rfl) (Nat.le_of_ble_eq_true rfl) ?_
  obtain ⟨w4, e4, h⟩ := x_bind h
  refine g_putfF 24 2 1 xy2 xy2_ok xn2 dG_init_21 rfl x_in2 tw_1_58 rfl (by decide) rfl rfl rfl (fun _ _ => ⟨rfl, rfl⟩) e4 ?_
  refine g_aload_n 25 (i := 0) dG_init_24 rfl rfl rfl ?_
  refine g_iconst 26 (1 : Int32) dG_init_25 rfl (by decide) ?_
  obtain ⟨_, e5, h⟩ := x_bind h
  obtain ⟨w6, e6, h⟩ := x_bind h
  refine g_cV 29 none w6 [.int (1 : Int32)] [] dG_init_26 rfl (fun _ hK2 => mG_restart (d - 1) (by omega) e6 hK2) (x_ob_some e5) kG_22 (x_rm (Nat.le_trans (by decide) hd) (by decide)) ⟨Nat.le_of_ble_eq_true rfl, Nat.le_of_ble_eq_true rfl⟩ (Nat.le_of_ble_eq_true rfl) rfl ?_
  obtain rfl := Option.some.inj h
  exact g_vret rfl dG_init_29 hK
/-! ActSurgery$LikeGraphs.<init>()V: level X -/
theorem dK_init_0 : decode cK_init 0 = .ok (.aload_n 0, 1) := by decide +kernel
theorem dK_init_1 : decode cK_init 1 = .ok (.invokespecial 3, 3) := by decide +kernel
theorem dK_init_4 : decode cK_init 4 = .ok (.aload_n 0, 1) := by decide +kernel
theorem dK_init_5 : decode cK_init 5 = .ok (.bipush 6, 2) := by decide +kernel
theorem dK_init_7 : decode cK_init 7 = .ok (.newarray .int, 2) := by decide +kernel
theorem dK_init_9 : decode cK_init 9 = .ok (.putfield 9, 3) := by decide +kernel
theorem dK_init_12 : decode cK_init 12 = .ok (.aload_n 0, 1) := by decide +kernel
theorem dK_init_13 : decode cK_init 13 = .ok (.bipush 6, 2) := by decide +kernel
theorem dK_init_15 : decode cK_init 15 = .ok (.newarray .int, 2) := by decide +kernel
theorem dK_init_17 : decode cK_init 17 = .ok (.putfield 15, 3) := by decide +kernel
theorem dK_init_20 : decode cK_init 20 = .ok (.aload_n 0, 1) := by decide +kernel
theorem dK_init_21 : decode cK_init 21 = .ok (.bipush 6, 2) := by decide +kernel
theorem dK_init_23 : decode cK_init 23 = .ok (.newarray .int, 2) := by decide +kernel
theorem dK_init_25 : decode cK_init 25 = .ok (.putfield 18, 3) := by decide +kernel
theorem dK_init_28 : decode cK_init 28 = .ok (.aload_n 0, 1) := by decide +kernel
theorem dK_init_29 : decode cK_init 29 = .ok (.bipush 6, 2) := by decide +kernel
theorem dK_init_31 : decode cK_init 31 = .ok (.newarray .int, 2) := by decide +kernel
theorem dK_init_33 : decode cK_init 33 = .ok (.putfield 21, 3) := by decide +kernel
theorem dK_init_36 : decode cK_init 36 = .ok (.return_, 1) := by decide +kernel
theorem tw_1_75 : (Jvm.Cond.methodLink "ActSurgery$LikeGraphs" (3 : Nat) ({ cls := "java/lang/Object", name := "<init>", desc := "()V" } : Jvm.MethodName)) ∈ x_GT := x_t1 75 rfl rfl
theorem tw_1_76 : (Jvm.Cond.fieldLink "ActSurgery$LikeGraphs" (9 : Nat) "ActSurgery$LikeGraphs" "beside" "[I") ∈ x_GT := x_t1 76 rfl rfl
theorem tw_1_77 : (Jvm.Cond.fieldLink "ActSurgery$LikeGraphs" (15 : Nat) "ActSurgery$LikeGraphs" "order" "[I") ∈ x_GT := x_t1 77 rfl rfl
theorem tw_1_78 : (Jvm.Cond.fieldLink "ActSurgery$LikeGraphs" (18 : Nat) "ActSurgery$LikeGraphs" "parentsNow" "[I") ∈ x_GT := x_t1 78 rfl rfl
theorem tw_1_79 : (Jvm.Cond.fieldLink "ActSurgery$LikeGraphs" (21 : Nat) "ActSurgery$LikeGraphs" "sureParents" "[I") ∈ x_GT := x_t1 79 rfl rfl
def fK_init  (w : x_W) (v0 : Nat) : Option x_W :=
  (x_pf (w ++ [.inl (6, fun _ => 0)]) v0 4 0 (.ref w.length)).bind fun w2 =>
  (x_pf (w2 ++ [.inl (6, fun _ => 0)]) v0 4 1 (.ref w2.length)).bind fun w4 =>
  (x_pf (w4 ++ [.inl (6, fun _ => 0)]) v0 4 2 (.ref w4.length)).bind fun w6 =>
  (x_pf (w6 ++ [.inl (6, fun _ => 0)]) v0 4 3 (.ref w6.length)).bind fun w8 =>
  some w8
set_option maxHeartbeats 4000000 in
set_option maxRecDepth 100000 in
theorem mK_init (d : Nat) (hd : 1 ≤ d) {K : Option Value → x_W → Prop} {w : x_W} {v0 : Nat} {r : x_W} (h : fK_init w v0 = some r) (hK : K none r) : x_M yK_init cK_init 1 none d 4 24 [.ref v0] w K := by
  refine x_M.of [some (.ref v0)] (by decide) rfl (Nat.le_of_ble_eq_true rfl) ?_
  unfold fK_init at h
  refine g_aload_n 1 (i := 0) dK_init_0 rfl rfl rfl ?_
  refine g_objInit 4 dK_init_1 rfl tw_1_75 tw_1_16 tw_1_17 (x_r1 (Nat.le_trans (by decide) hd)) (x_r60 (Nat.le_trans (by decide) hd)) (Nat.le_of_ble_eq_true rfl) ?_
  refine g_aload_n 5 (i := 0) dK_init_4 rfl rfl rfl ?_
  refine g_bipush 7 (6 : Int32) dK_init_5 rfl (by decide) ?_
  refine g_newa 9 6 dK_init_7 rfl x_arr (by decide) (by decide) (by decide) (Nat.le_of_ble_eq_true rfl) (Nat.le_of_ble_eq_true rfl) ?_
  obtain ⟨w2, e2, h⟩ := x_bind h
  refine g_putfF 12 4 0 xy4 xy4_ok xn4 dK_init_9 rfl x_in4 tw_1_76 rfl (by decide) rfl rfl rfl (fun _ _ => ⟨rfl, rfl⟩) e2 ?_
  refine g_aload_n 13 (i := 0) dK_init_12 rfl rfl rfl ?_
  refine g_bipush 15 (6 : Int32) dK_init_13 rfl (by decide) ?_
  refine g_newa 17 6 dK_init_15 rfl x_arr (by decide) (by decide) (by decide) (Nat.le_of_ble_eq_true rfl) (Nat.le_of_ble_eq_true rfl) ?_
  obtain ⟨w4, e4, h⟩ := x_bind h
  refine g_putfF 20 4 1 xy4 xy4_ok xn4 dK_init_17 rfl x_in4 tw_1_77 rfl (by decide) rfl rfl rfl (fun _ _ => ⟨rfl, rfl⟩) e4 ?_
  refine g_aload_n 21 (i := 0) dK_init_20 rfl rfl rfl ?_
  refine g_bipush 23 (6 : Int32) dK_init_21 rfl (by decide) ?_
  refine g_newa 25 6 dK_init_23 rfl x_arr (by decide) (by decide) (by decide) (Nat.le_of_ble_eq_true rfl) (Nat.le_of_ble_eq_true rfl) ?_
  obtain ⟨w6, e6, h⟩ := x_bind h
  refine g_putfF 28 4 2 xy4 xy4_ok xn4 dK_init_25 rfl x_in4 tw_1_78 rfl (by decide) rfl rfl rfl (fun _ _ => ⟨rfl, rfl⟩) e6 ?_
  refine g_aload_n 29 (i := 0) dK_init_28 rfl rfl rfl ?_
  refine g_bipush 31 (6 : Int32) dK_init_29 rfl (by decide) ?_
  refine g_newa 33 6 dK_init_31 rfl x_arr (by decide) (by decide) (by decide) (Nat.le_of_ble_eq_true rfl) (Nat.le_of_ble_eq_true rfl) ?_
  obtain ⟨w8, e8, h⟩ := x_bind h
  refine g_putfF 36 4 3 xy4 xy4_ok xn4 dK_init_33 rfl x_in4 tw_1_79 rfl (by decide) rfl rfl rfl (fun _ _ => ⟨rfl, rfl⟩) e8 ?_
  obtain rfl := Option.some.inj h
  exact g_vret rfl dK_init_36 hK
/-! ActSurgery$World.<init>()V: level T -/
theorem dO_init_0 : decode cO_init 0 = .ok (.aload_n 0, 1) := by decide +kernel
theorem dO_init_1 : decode cO_init 1 = .ok (.invokespecial 3, 3) := by decide +kernel
theorem dO_init_4 : decode cO_init 4 = .ok (.return_, 1) := by decide +kernel
theorem tw_1_101 : (Jvm.Cond.methodLink "ActSurgery$World" (3 : Nat) ({ cls := "java/lang/Object", name := "<init>", desc := "()V" } : Jvm.MethodName)) ∈ x_GT := x_t1 101 rfl rfl
def fO_init  (v0 : Nat) : Unit :=
  ()
set_option maxHeartbeats 4000000 in
set_option maxRecDepth 100000 in
theorem mO_init (d : Nat) (hd : 1 ≤ d) {K : Option Value → x_W → Prop} {w : x_W} {v0 : Nat} {r : Unit} (h : fO_init v0 = r) (hK : K none w) : x_M yO_init cO_init 1 none d 0 0 [.ref v0] w K := by
  refine x_M.of [some (.ref v0)] (by decide) rfl (Nat.le_of_ble_eq_true rfl) ?_
  unfold fO_init at h
  refine g_aload_n 1 (i := 0) dO_init_0 rfl rfl rfl ?_
  refine g_objInit 4 dO_init_1 rfl tw_1_101 tw_1_16 tw_1_17 (x_r1 (Nat.le_trans (by decide) hd)) (x_r60 (Nat.le_trans (by decide) hd)) (Nat.le_of_ble_eq_true rfl) ?_
  subst h
  exact g_vret rfl dO_init_4 hK
/-! ActSurgery.<init>()V: level X -/
theorem dA_init_0 : decode cA_init 0 = .ok (.aload_n 0, 1) := by decide +kernel
theorem dA_init_1 : decode cA_init 1 = .ok (.invokespecial 1, 3) := by decide +kernel
theorem dA_init_4 : decode cA_init 4 = .ok (.aload_n 0, 1) := by decide +kernel
theorem dA_init_5 : decode cA_init 5 = .ok (.new 7, 3) := by decide +kernel
theorem dA_init_8 : decode cA_init 8 = .ok (.dup, 1) := by decide +kernel
theorem dA_init_9 : decode cA_init 9 = .ok (.invokespecial 9, 3) := by decide +kernel
theorem dA_init_12 : decode cA_init 12 = .ok (.putfield 10, 3) := by decide +kernel
theorem dA_init_15 : decode cA_init 15 = .ok (.aload_n 0, 1) := by decide +kernel
theorem dA_init_16 : decode cA_init 16 = .ok (.new 7, 3) := by decide +kernel
theorem dA_init_19 : decode cA_init 19 = .ok (.dup, 1) := by decide +kernel
theorem dA_init_20 : decode cA_init 20 = .ok (.invokespecial 9, 3) := by decide +kernel
theorem dA_init_23 : decode cA_init 23 = .ok (.putfield 16, 3) := by decide +kernel
theorem dA_init_26 : decode cA_init 26 = .ok (.aload_n 0, 1) := by decide +kernel
theorem dA_init_27 : decode cA_init 27 = .ok (.new 19, 3) := by decide +kernel
theorem dA_init_30 : decode cA_init 30 = .ok (.dup, 1) := by decide +kernel
theorem dA_init_31 : decode cA_init 31 = .ok (.invokespecial 21, 3) := by decide +kernel
theorem dA_init_34 : decode cA_init 34 = .ok (.putfield 22, 3) := by decide +kernel
theorem dA_init_37 : decode cA_init 37 = .ok (.aload_n 0, 1) := by decide +kernel
theorem dA_init_38 : decode cA_init 38 = .ok (.new 26, 3) := by decide +kernel
theorem dA_init_41 : decode cA_init 41 = .ok (.dup, 1) := by decide +kernel
theorem dA_init_42 : decode cA_init 42 = .ok (.invokespecial 28, 3) := by decide +kernel
theorem dA_init_45 : decode cA_init 45 = .ok (.putfield 29, 3) := by decide +kernel
theorem dA_init_48 : decode cA_init 48 = .ok (.aload_n 0, 1) := by decide +kernel
theorem dA_init_49 : decode cA_init 49 = .ok (.new 33, 3) := by decide +kernel
theorem dA_init_52 : decode cA_init 52 = .ok (.dup, 1) := by decide +kernel
theorem dA_init_53 : decode cA_init 53 = .ok (.invokespecial 35, 3) := by decide +kernel
theorem dA_init_56 : decode cA_init 56 = .ok (.putfield 36, 3) := by decide +kernel
theorem dA_init_59 : decode cA_init 59 = .ok (.aload_n 0, 1) := by decide +kernel
theorem dA_init_60 : decode cA_init 60 = .ok (.new 33, 3) := by decide +kernel
theorem dA_init_63 : decode cA_init 63 = .ok (.dup, 1) := by decide +kernel
theorem dA_init_64 : decode cA_init 64 = .ok (.invokespecial 35, 3) := by decide +kernel
theorem dA_init_67 : decode cA_init 67 = .ok (.putfield 40, 3) := by decide +kernel
theorem dA_init_70 : decode cA_init 70 = .ok (.return_, 1) := by decide +kernel
theorem tw_1_15 : (Jvm.Cond.methodLink "ActSurgery" (1 : Nat) ({ cls := "java/lang/Object", name := "<init>", desc := "()V" } : Jvm.MethodName)) ∈ x_GT := x_t1 15 rfl rfl
theorem tw_1_18 : (Jvm.Cond.classLink "ActSurgery" (7 : Nat) "ActSurgery$Graph") ∈ x_GT := x_t1 18 rfl rfl
theorem tw_1_19 : (Jvm.Cond.instantiable "ActSurgery$Graph" (3 : Nat)) ∈ x_GT := x_t1 19 rfl rfl
theorem tw_1_21 : (Jvm.Cond.instanceMethod ({ cls := "ActSurgery$Graph", name := "<init>", desc := "()V" } : Jvm.MethodName)) ∈ x_GT := x_t1 21 rfl rfl
theorem tw_1_22 : (Jvm.Cond.code ({ cls := "ActSurgery$Graph", name := "<init>", desc := "()V" } : Jvm.MethodName) prog_3_method_1_code (1 : Nat) (Option.none : Option Jvm.ClassFile.FieldType)) ∈ x_GT := x_t1 22 rfl rfl
theorem tw_1_20 : (Jvm.Cond.methodLink "ActSurgery" (9 : Nat) ({ cls := "ActSurgery$Graph", name := "<init>", desc := "()V" } : Jvm.MethodName)) ∈ x_GT := x_t1 20 rfl rfl
theorem kA_9 : x_kI "ActSurgery" 9 yG_init cG_init 1 0 := ⟨rfl, tw_1_21, tw_1_22, tw_1_2, tw_1_20, (by decide +kernel)⟩
theorem tw_1_115 : (Jvm.Cond.fieldLink "ActSurgery" (10 : Nat) "ActSurgery" "here" "LActSurgery$Graph;") ∈ x_GT := x_t1 115 rfl rfl
theorem tw_1_116 : (Jvm.Cond.fieldLink "ActSurgery" (16 : Nat) "ActSurgery" "other" "LActSurgery$Graph;") ∈ x_GT := x_t1 116 rfl rfl
theorem tw_1_68 : (Jvm.Cond.classLink "ActSurgery" (19 : Nat) "ActSurgery$Arrows") ∈ x_GT := x_t1 68 rfl rfl
theorem kA_21 : x_kIN "ActSurgery" 21 yR_init cR_init 1 0 "ActSurgery" := ⟨rfl, tw_1_27, tw_1_28, tw_1_3, (List.mem_of_getElem? (i := 1) rfl), (by decide +kernel)⟩
theorem tw_1_117 : (Jvm.Cond.fieldLink "ActSurgery" (22 : Nat) "ActSurgery" "cut" "LActSurgery$Arrows;") ∈ x_GT := x_t1 117 rfl rfl
theorem tw_1_70 : (Jvm.Cond.classLink "ActSurgery" (26 : Nat) "ActSurgery$LikeGraphs") ∈ x_GT := x_t1 70 rfl rfl
theorem tw_1_71 : (Jvm.Cond.instantiable "ActSurgery$LikeGraphs" (6 : Nat)) ∈ x_GT := x_t1 71 rfl rfl
theorem tw_1_4 : (Jvm.Cond.initialized "ActSurgery$LikeGraphs") ∈ x_GT := x_t1 4 rfl rfl
theorem tw_1_73 : (Jvm.Cond.instanceMethod ({ cls := "ActSurgery$LikeGraphs", name := "<init>", desc := "()V" } : Jvm.MethodName)) ∈ x_GT := x_t1 73 rfl rfl
theorem tw_1_74 : (Jvm.Cond.code ({ cls := "ActSurgery$LikeGraphs", name := "<init>", desc := "()V" } : Jvm.MethodName) prog_4_method_1_code (1 : Nat) (Option.none : Option Jvm.ClassFile.FieldType)) ∈ x_GT := x_t1 74 rfl rfl
theorem kA_28 : x_kIN "ActSurgery" 28 yK_init cK_init 1 0 "ActSurgery" := ⟨rfl, tw_1_73, tw_1_74, tw_1_4, (List.mem_of_getElem? (i := 2) rfl), (by decide +kernel)⟩
theorem tw_1_118 : (Jvm.Cond.fieldLink "ActSurgery" (29 : Nat) "ActSurgery" "likes" "LActSurgery$LikeGraphs;") ∈ x_GT := x_t1 118 rfl rfl
theorem tw_1_96 : (Jvm.Cond.classLink "ActSurgery" (33 : Nat) "ActSurgery$World") ∈ x_GT := x_t1 96 rfl rfl
theorem tw_1_97 : (Jvm.Cond.instantiable "ActSurgery$World" (4 : Nat)) ∈ x_GT := x_t1 97 rfl rfl
theorem tw_1_5 : (Jvm.Cond.initialized "ActSurgery$World") ∈ x_GT := x_t1 5 rfl rfl
theorem tw_1_99 : (Jvm.Cond.instanceMethod ({ cls := "ActSurgery$World", name := "<init>", desc := "()V" } : Jvm.MethodName)) ∈ x_GT := x_t1 99 rfl rfl
theorem tw_1_100 : (Jvm.Cond.code ({ cls := "ActSurgery$World", name := "<init>", desc := "()V" } : Jvm.MethodName) prog_5_method_1_code (1 : Nat) (Option.none : Option Jvm.ClassFile.FieldType)) ∈ x_GT := x_t1 100 rfl rfl
theorem kA_35 : x_kIN "ActSurgery" 35 yO_init cO_init 1 0 "ActSurgery" := ⟨rfl, tw_1_99, tw_1_100, tw_1_5, (List.mem_of_getElem? (i := 3) rfl), (by decide +kernel)⟩
theorem tw_1_119 : (Jvm.Cond.fieldLink "ActSurgery" (36 : Nat) "ActSurgery" "one" "LActSurgery$World;") ∈ x_GT := x_t1 119 rfl rfl
theorem tw_1_120 : (Jvm.Cond.fieldLink "ActSurgery" (40 : Nat) "ActSurgery" "two" "LActSurgery$World;") ∈ x_GT := x_t1 120 rfl rfl
def fA_init  (w : x_W) (v0 : Nat) : Option x_W :=
  (fG_init (w ++ [.inr (2, [.null, .null, .int 0])]) w.length).bind fun w1 =>
  (x_pf w1 v0 0 0 (.ref w.length)).bind fun w2 =>
  (fG_init (w2 ++ [.inr (2, [.null, .null, .int 0])]) w2.length).bind fun w3 =>
  (x_pf w3 v0 0 1 (.ref w2.length)).bind fun w4 =>
  (fR_init (w4 ++ [.inr (1, [.int 0, .null])]) w4.length).bind fun w5 =>
  (x_pf w5 v0 0 2 (.ref w4.length)).bind fun w6 =>
  (fK_init (w6 ++ [.inr (4, [.null, .null, .null, .null, .int 0, .int 0])]) w6.length).bind fun w7 =>
  (x_pf w7 v0 0 3 (.ref w6.length)).bind fun w8 =>
  (x_pf (w8 ++ [.inr (3, [.int 0, .int 0, .int 0, .int 0])]) v0 0 4 (.ref w8.length)).bind fun w9 =>
  (x_pf (w9 ++ [.inr (3, [.int 0, .int 0, .int 0, .int 0])]) v0 0 5 (.ref w9.length)).bind fun w10 =>
  some w10
set_option maxHeartbeats 4000000 in
set_option maxRecDepth 100000 in
theorem mA_init (d : Nat) (hd : 5 ≤ d) {K : Option Value → x_W → Prop} {w : x_W} {v0 : Nat} {r : x_W} (h : fA_init w v0 = some r) (hK : K none r) : x_M yA_init cA_init 1 none d 17 452 [.ref v0] w K := by
  refine x_M.of [some (.ref v0)] (by decide) rfl (Nat.le_of_ble_eq_true rfl) ?_
  unfold fA_init at h
  refine g_aload_n 1 (i := 0) dA_init_0 rfl rfl rfl ?_
  refine g_objInit 4 dA_init_1 rfl tw_1_15 tw_1_16 tw_1_17 (x_r1 (Nat.le_trans (by decide) hd)) (x_r60 (Nat.le_trans (by decide) hd)) (Nat.le_of_ble_eq_true rfl) ?_
  refine g_aload_n 5 (i := 0) dA_init_4 rfl rfl rfl ?_
  refine g_new 8 2 xy2 xy2_ok [.null, .null, .int 0] dA_init_5 rfl x_in2 tw_1_18 tw_1_19 tw_1_2 rfl x_df2 (fun _ _ => rfl) (Nat.le_of_ble_eq_true rfl) (Nat.le_of_ble_eq_true rfl) ?_
  refine g_dup 9 dA_init_8 rfl rfl ?_
  obtain ⟨w1, e1, h⟩ := x_bind h
  refine g_cI 12 none w1 [] [.ref w.length, .ref v0] dA_init_9 rfl (fun _ hK2 => mG_init (d - 1) (by omega) e1 hK2) kA_9 (x_rm (Nat.le_trans (by decide) hd) (by decide)) ⟨Nat.le_of_ble_eq_true rfl, Nat.le_of_ble_eq_true rfl⟩ (Nat.le_of_ble_eq_true rfl) rfl ?_
  obtain ⟨w2, e2, h⟩ := x_bind h
  refine g_putf 15 0 0 xy0 xy0_ok xn0 dA_init_12 rfl x_in0 tw_1_115 rfl (by decide) rfl (fun _ _ => ⟨rfl, rfl⟩) e2 ?_
  refine g_aload_n 16 (i := 0) dA_init_15 rfl rfl rfl ?_
  refine g_new 19 2 xy2 xy2_ok [.null, .null, .int 0] dA_init_16 rfl x_in2 tw_1_18 tw_1_19 tw_1_2 rfl x_df2 (fun _ _ => rfl) (Nat.le_of_ble_eq_true rfl) (Nat.le_of_ble_eq_true rfl) ?_
  refine g_dup 20 dA_init_19 rfl rfl ?_
  obtain ⟨w3, e3, h⟩ := x_bind h
  refine g_cI 23 none w3 [] [.ref w2.length, .ref v0] dA_init_20 rfl (fun _ hK2 => mG_init (d - 1) (by omega) e3 hK2) kA_9 (x_rm (Nat.le_trans (by decide) hd) (by decide)) ⟨Nat.le_of_ble_eq_true rfl, Nat.le_of_ble_eq_true rfl⟩ (Nat.le_of_ble_eq_true rfl) rfl ?_
  obtain ⟨w4, e4, h⟩ := x_bind h
  refine g_putf 26 0 1 xy0 xy0_ok xn0 dA_init_23 rfl x_in0 tw_1_116 rfl (by decide) rfl (fun _ _ => ⟨rfl, rfl⟩) e4 ?_
  refine g_aload_n 27 (i := 0) dA_init_26 rfl rfl rfl ?_
  refine g_new 30 1 xy1 xy1_ok [.int 0, .null] dA_init_27 rfl x_in1 tw_1_68 tw_1_25 tw_1_3 rfl x_df1 (fun _ _ => rfl) (Nat.le_of_ble_eq_true rfl) (Nat.le_of_ble_eq_true rfl) ?_
  refine g_dup 31 dA_init_30 rfl rfl ?_
  obtain ⟨w5, e5, h⟩ := x_bind h
  refine g_cIN 34 none w5 [] [.ref w4.length, .ref v0] dA_init_31 rfl (fun _ hK2 => mR_init (d - 1) (by omega) e5 hK2) kA_21 (x_rm (Nat.le_trans (by decide) hd) (by decide)) ⟨Nat.le_of_ble_eq_true rfl, Nat.le_of_ble_eq_true rfl⟩ (Nat.le_of_ble_eq_true rfl) rfl ?_
  obtain ⟨w6, e6, h⟩ := x_bind h
  refine g_putfF 37 0 2 xy0 xy0_ok xn0 dA_init_34 rfl x_in0 tw_1_117 rfl (by decide) rfl rfl rfl (fun _ _ => ⟨rfl, rfl⟩) e6 ?_
  refine g_aload_n 38 (i := 0) dA_init_37 rfl rfl rfl ?_
  refine g_new 41 4 xy4 xy4_ok [.null, .null, .null, .null, .int 0, .int 0] dA_init_38 rfl x_in4 tw_1_70 tw_1_71 tw_1_4 rfl x_df4 (fun _ _ => rfl) (Nat.le_of_ble_eq_true rfl) (Nat.le_of_ble_eq_true rfl) ?_
  refine g_dup 42 dA_init_41 rfl rfl ?_
  obtain ⟨w7, e7, h⟩ := x_bind h
  refine g_cIN 45 none w7 [] [.ref w6.length, .ref v0] dA_init_42 rfl (fun _ hK2 => mK_init (d - 1) (by omega) e7 hK2) kA_28 (x_rm (Nat.le_trans (by decide) hd) (by decide)) ⟨Nat.le_of_ble_eq_true rfl, Nat.le_of_ble_eq_true rfl⟩ (Nat.le_of_ble_eq_true rfl) rfl ?_
  obtain ⟨w8, e8, h⟩ := x_bind h
  refine g_putfF 48 0 3 xy0 xy0_ok xn0 dA_init_45 rfl x_in0 tw_1_118 rfl (by decide) rfl rfl rfl (fun _ _ => ⟨rfl, rfl⟩) e8 ?_
  refine g_aload_n 49 (i := 0) dA_init_48 rfl rfl rfl ?_
  refine g_new 52 3 xy3 xy3_ok [.int 0, .int 0, .int 0, .int 0] dA_init_49 rfl x_in3 tw_1_96 tw_1_97 tw_1_5 rfl x_df3 (fun _ _ => rfl) (Nat.le_of_ble_eq_true rfl) (Nat.le_of_ble_eq_true rfl) ?_
  refine g_dup 53 dA_init_52 rfl rfl ?_
  refine g_cIN 56 none (w8 ++ [.inr (3, [.int 0, .int 0, .int 0, .int 0])]) [] [.ref w8.length, .ref v0] dA_init_53 rfl (fun _ hK2 => mO_init (d - 1) (by omega) rfl hK2) kA_35 (x_rm (Nat.le_trans (by decide) hd) (by decide)) ⟨Nat.le_of_ble_eq_true rfl, Nat.le_of_ble_eq_true rfl⟩ (Nat.le_of_ble_eq_true rfl) rfl ?_
  obtain ⟨w9, e9, h⟩ := x_bind h
  refine g_putfF 59 0 4 xy0 xy0_ok xn0 dA_init_56 rfl x_in0 tw_1_119 rfl (by decide) rfl rfl rfl (fun _ _ => ⟨rfl, rfl⟩) e9 ?_
  refine g_aload_n 60 (i := 0) dA_init_59 rfl rfl rfl ?_
  refine g_new 63 3 xy3 xy3_ok [.int 0, .int 0, .int 0, .int 0] dA_init_60 rfl x_in3 tw_1_96 tw_1_97 tw_1_5 rfl x_df3 (fun _ _ => rfl) (Nat.le_of_ble_eq_true rfl) (Nat.le_of_ble_eq_true rfl) ?_
  refine g_dup 64 dA_init_63 rfl rfl ?_
  refine g_cIN 67 none (w9 ++ [.inr (3, [.int 0, .int 0, .int 0, .int 0])]) [] [.ref w9.length, .ref v0] dA_init_64 rfl (fun _ hK2 => mO_init (d - 1) (by omega) rfl hK2) kA_35 (x_rm (Nat.le_trans (by decide) hd) (by decide)) ⟨Nat.le_of_ble_eq_true rfl, Nat.le_of_ble_eq_true rfl⟩ (Nat.le_of_ble_eq_true rfl) rfl ?_
  obtain ⟨w10, e10, h⟩ := x_bind h
  refine g_putfF 70 0 5 xy0 xy0_ok xn0 dA_init_67 rfl x_in0 tw_1_120 rfl (by decide) rfl rfl rfl (fun _ _ => ⟨rfl, rfl⟩) e10 ?_
  obtain rfl := Option.some.inj h
  exact g_vret rfl dA_init_70 hK
/-! ActSurgery.begin(I)I: level X -/
theorem dA_begin_0 : decode cA_begin 0 = .ok (.iload_n 1, 1) := by decide +kernel
theorem dA_begin_1 : decode cA_begin 1 = .ok (.iconst 1, 1) := by decide +kernel
theorem dA_begin_2 : decode cA_begin 2 = .ok (.if_icmp .lt 9, 3) := by decide +kernel
theorem dA_begin_5 : decode cA_begin 5 = .ok (.iload_n 1, 1) := by decide +kernel
theorem dA_begin_6 : decode cA_begin 6 = .ok (.bipush 6, 2) := by decide +kernel
theorem dA_begin_8 : decode cA_begin 8 = .ok (.if_icmp .le 6, 3) := by decide +kernel
theorem dA_begin_11 : decode cA_begin 11 = .ok (.bipush (-2), 2) := by decide +kernel
theorem dA_begin_13 : decode cA_begin 13 = .ok (.ireturn, 1) := by decide +kernel
theorem dA_begin_14 : decode cA_begin 14 = .ok (.aload_n 0, 1) := by decide +kernel
theorem dA_begin_15 : decode cA_begin 15 = .ok (.getfield 10, 3) := by decide +kernel
theorem dA_begin_18 : decode cA_begin 18 = .ok (.getfield 43, 3) := by decide +kernel
theorem dA_begin_21 : decode cA_begin 21 = .ok (.getfield 46, 3) := by decide +kernel
theorem dA_begin_24 : decode cA_begin 24 = .ok (.istore_n 2, 1) := by decide +kernel
theorem dA_begin_25 : decode cA_begin 25 = .ok (.aload_n 0, 1) := by decide +kernel
theorem dA_begin_26 : decode cA_begin 26 = .ok (.getfield 10, 3) := by decide +kernel
theorem dA_begin_29 : decode cA_begin 29 = .ok (.iload_n 1, 1) := by decide +kernel
theorem dA_begin_30 : decode cA_begin 30 = .ok (.invokevirtual 50, 3) := by decide +kernel
theorem dA_begin_33 : decode cA_begin 33 = .ok (.iload_n 2, 1) := by decide +kernel
theorem dA_begin_34 : decode cA_begin 34 = .ok (.ireturn, 1) := by decide +kernel
theorem tw_1_57 : (Jvm.Cond.fieldLink "ActSurgery" (43 : Nat) "ActSurgery$Graph" "arrows" "LActSurgery$Arrows;") ∈ x_GT := x_t1 57 rfl rfl
theorem tw_1_33 : (Jvm.Cond.fieldLink "ActSurgery" (46 : Nat) "ActSurgery$Arrows" "size" "I") ∈ x_GT := x_t1 33 rfl rfl
theorem tw_1_138 : (Jvm.Cond.methodLink "ActSurgery" (50 : Nat) ({ cls := "ActSurgery$Graph", name := "restart", desc := "(I)V" } : Jvm.MethodName)) ∈ x_GT := x_t1 138 rfl rfl
theorem kA_50 : x_kV "ActSurgery" 50 yG_restart cG_restart 3 none 1 2 := ⟨tw_1_45, tw_1_46, tw_1_47, tw_1_2, tw_1_138, (by decide +kernel), rfl⟩
def fA_begin  (w : x_W) (v0 : Nat) (v1 : Int32) : Option (Int32 × x_W) :=
  if v1 < (1 : Int32) then
    some ((-2 : Int32), w)
  else
    if v1 ≤ (6 : Int32) then
      (x_fr w v0 0 0).bind fun t3 =>
      (x_fr w t3 2 0).bind fun t4 =>
      (x_fi w t4 1 0).bind fun t5 =>
      (fG_restart w t3 v1).bind fun w6 =>
      some (t5, w6)
    else
      some ((-2 : Int32), w)
set_option maxHeartbeats 4000000 in
set_option maxRecDepth 100000 in
theorem mA_begin (d : Nat) (hd : 4 ≤ d) {K : Option Value → x_W → Prop} {w : x_W} {v0 : Nat} {v1 : Int32} {r : (Int32 × x_W)} (h : fA_begin w v0 v1 = some r) (hK : K (some (.int r.1)) r.2) : x_M yA_begin cA_begin 3 (some .int) d 0 0 [.ref v0, .int v1] w K := by
  refine x_M.of [some (.ref v0), some (.int v1), none] (by decide) rfl (Nat.le_of_ble_eq_true rfl) ?_
  unfold fA_begin at h
  refine g_iload_n 1 (i := 1) dA_begin_0 rfl rfl rfl ?_
  refine g_iconst 2 (1 : Int32) dA_begin_1 rfl (by decide) ?_
  by_cases c1 : v1 < (1 : Int32)
  · rw [if_pos c1] at h
    refine g_icmp_lt_t 11 dA_begin_2 (by decide) c1 ?_
    refine g_bipush 13 (-2 : Int32) dA_begin_11 rfl (by decide) ?_
    obtain rfl := Option.some.inj h
    exact g_iret rfl dA_begin_13 hK
  · rw [if_neg c1] at h
    refine g_icmp_lt_f 5 11 dA_begin_2 (by decide) rfl c1 ?_
    refine g_iload_n 6 (i := 1) dA_begin_5 rfl rfl rfl ?_
    refine g_bipush 8 (6 : Int32) dA_begin_6 rfl (by decide) ?_
    by_cases c2 : v1 ≤ (6 : Int32)
    · rw [if_pos c2] at h
      refine g_icmp_le_t 14 dA_begin_8 (by decide) c2 ?_
      refine g_aload_n 15 (i := 0) dA_begin_14 rfl rfl rfl ?_
      obtain ⟨t3, e3, h⟩ := x_bind h
      refine g_getfR 18 0 0 dA_begin_15 rfl x_in0 tw_1_115 rfl (by decide) e3 ?_
      obtain ⟨t4, e4, h⟩ := x_bind h
      refine g_getfR 21 2 0 dA_begin_18 rfl x_in2 tw_1_57 rfl (by decide) e4 ?_
      obtain ⟨t5, e5, h⟩ := x_bind h
      refine g_getfI 24 1 0 dA_begin_21 rfl x_in1 tw_1_33 rfl (by decide) e5 ?_
      refine g_istore_n 25 (i := 2) [some (.ref v0), some (.int v1), some (.int t5)] dA_begin_24 rfl rfl rfl (by decide) ?_
      refine g_aload_n 26 (i := 0) dA_begin_25 rfl rfl rfl ?_
      refine g_getfR 29 0 0 dA_begin_26 rfl x_in0 tw_1_115 rfl (by decide) e3 ?_
      refine g_iload_n 30 (i := 1) dA_begin_29 rfl rfl rfl ?_
      obtain ⟨w6, e6, h⟩ := x_bind h
      refine g_cV 33 none w6 [.int v1] [] dA_begin_30 rfl (fun _ hK2 => mG_restart (d - 1) (by omega) e6 hK2) (x_fr_ob e4) kA_50 (x_rm (Nat.le_trans (by decide) hd) (by decide)) ⟨Nat.zero_le _, Nat.zero_le _⟩ (Nat.le_of_ble_eq_true rfl) rfl ?_
      refine g_iload_n 34 (i := 2) dA_begin_33 rfl rfl rfl ?_
      obtain rfl := Option.some.inj h
      exact g_iret rfl dA_begin_34 hK
    · rw [if_neg c2] at h
      refine g_icmp_le_f 11 14 dA_begin_8 (by decide) rfl c2 ?_
      refine g_bipush 13 (-2 : Int32) dA_begin_11 rfl (by decide) ?_
      obtain rfl := Option.some.inj h
      exact g_iret rfl dA_begin_13 hK
/-! ActSurgery.isPlace(I)Z: level P -/
theorem dA_isPlace_0 : decode cA_isPlace 0 = .ok (.iload_n 1, 1) := by decide +kernel
theorem dA_isPlace_1 : decode cA_isPlace 1 = .ok (.ifCond .lt 21, 3) := by decide +kernel
theorem dA_isPlace_4 : decode cA_isPlace 4 = .ok (.iload_n 1, 1) := by decide +kernel
theorem dA_isPlace_5 : decode cA_isPlace 5 = .ok (.aload_n 0, 1) := by decide +kernel
theorem dA_isPlace_6 : decode cA_isPlace 6 = .ok (.getfield 10, 3) := by decide +kernel
theorem dA_isPlace_9 : decode cA_isPlace 9 = .ok (.getfield 43, 3) := by decide +kernel
theorem dA_isPlace_12 : decode cA_isPlace 12 = .ok (.getfield 46, 3) := by decide +kernel
theorem dA_isPlace_15 : decode cA_isPlace 15 = .ok (.if_icmp .ge 7, 3) := by decide +kernel
theorem dA_isPlace_18 : decode cA_isPlace 18 = .ok (.iconst 1, 1) := by decide +kernel
theorem dA_isPlace_19 : decode cA_isPlace 19 = .ok (.goto 4, 3) := by decide +kernel
theorem dA_isPlace_22 : decode cA_isPlace 22 = .ok (.iconst 0, 1) := by decide +kernel
theorem dA_isPlace_23 : decode cA_isPlace 23 = .ok (.ireturn, 1) := by decide +kernel
def fA_isPlace (w : x_W) (v0 : Nat) (v1 : Int32) : Option Int32 :=
  if v1 < (0 : Int32) then
    some (0 : Int32)
  else
    (x_fr w v0 0 0).bind fun t2 =>
    (x_fr w t2 2 0).bind fun t3 =>
    (x_fi w t3 1 0).bind fun t4 =>
    if t4 ≤ v1 then
      some (0 : Int32)
    else
      some (1 : Int32)
set_option maxHeartbeats 4000000 in
set_option maxRecDepth 100000 in
theorem mA_isPlace (d : Nat) (hd : 1 ≤ d) {K : Option Value → x_W → Prop} {w : x_W} {v0 : Nat} {v1 : Int32} {r : Int32} (h : fA_isPlace w v0 v1 = some r) (hK : K (some (.int r)) w) : x_M yA_isPlace cA_isPlace 2 (some .boolean) d 0 0 [.ref v0, .int v1] w K := by
  refine x_M.of [some (.ref v0), some (.int v1)] (by decide) rfl (Nat.le_of_ble_eq_true rfl) ?_
  unfold fA_isPlace at h
  refine g_iload_n 1 (i := 1) dA_isPlace_0 rfl rfl rfl ?_
  by_cases c1 : v1 < (0 : Int32)
  · rw [if_pos c1] at h
    refine g_if_lt_t 22 dA_isPlace_1 (by decide) c1 ?_
    refine g_iconst 23 (0 : Int32) dA_isPlace_22 rfl (by decide) ?_
    obtain rfl := Option.some.inj h
    exact g_zret rfl (by decide) dA_isPlace_23 hK
  · rw [if_neg c1] at h
    refine g_if_lt_f 4 22 dA_isPlace_1 (by decide) rfl c1 ?_
    refine g_iload_n 5 (i := 1) dA_isPlace_4 rfl rfl rfl ?_
    refine g_aload_n 6 (i := 0) dA_isPlace_5 rfl rfl rfl ?_
    obtain ⟨t2, e2, h⟩ := x_bind h
    refine g_getfR 9 0 0 dA_isPlace_6 rfl x_in0 tw_1_115 rfl (by decide) e2 ?_
    obtain ⟨t3, e3, h⟩ := x_bind h
    refine g_getfR 12 2 0 dA_isPlace_9 rfl x_in2 tw_1_57 rfl (by decide) e3 ?_
    obtain ⟨t4, e4, h⟩ := x_bind h
    refine g_getfI 15 1 0 dA_isPlace_12 rfl x_in1 tw_1_33 rfl (by decide) e4 ?_
    by_cases c5 : t4 ≤ v1
    · rw [if_pos c5] at h
      refine g_icmp_ge_t 22 dA_isPlace_15 (by decide) c5 ?_
      refine g_iconst 23 (0 : Int32) dA_isPlace_22 rfl (by decide) ?_
      obtain rfl := Option.some.inj h
      exact g_zret rfl (by decide) dA_isPlace_23 hK
    · rw [if_neg c5] at h
      refine g_icmp_ge_f 18 22 dA_isPlace_15 (by decide) rfl c5 ?_
      refine g_iconst 19 (1 : Int32) dA_isPlace_18 rfl (by decide) ?_
      refine g_goto 23 dA_isPlace_19 (by decide) ?_
      obtain rfl := Option.some.inj h
      exact g_zret rfl (by decide) dA_isPlace_23 hK
/-! ActSurgery.isWithin(II)Z: level T -/
theorem dA_isWithin_0 : decode cA_isWithin 0 = .ok (.iload_n 0, 1) := by decide +kernel
theorem dA_isWithin_1 : decode cA_isWithin 1 = .ok (.iload_n 1, 1) := by decide +kernel
theorem dA_isWithin_2 : decode cA_isWithin 2 = .ok (.iconst (-1), 1) := by decide +kernel
theorem dA_isWithin_3 : decode cA_isWithin 3 = .ok (.ixor, 1) := by decide +kernel
theorem dA_isWithin_4 : decode cA_isWithin 4 = .ok (.iand, 1) := by decide +kernel
theorem dA_isWithin_5 : decode cA_isWithin 5 = .ok (.ifCond .ne 7, 3) := by decide +kernel
theorem dA_isWithin_8 : decode cA_isWithin 8 = .ok (.iconst 1, 1) := by decide +kernel
theorem dA_isWithin_9 : decode cA_isWithin 9 = .ok (.goto 4, 3) := by decide +kernel
theorem dA_isWithin_12 : decode cA_isWithin 12 = .ok (.iconst 0, 1) := by decide +kernel
theorem dA_isWithin_13 : decode cA_isWithin 13 = .ok (.ireturn, 1) := by decide +kernel
def fA_isWithin  (v0 : Int32) (v1 : Int32) : Int32 :=
  if (v0 &&& (v1 ^^^ (-1 : Int32))) = (0 : Int32) then
    (1 : Int32)
  else
    (0 : Int32)
set_option maxHeartbeats 4000000 in
set_option maxRecDepth 100000 in
theorem mA_isWithin (d : Nat) (hd : 1 ≤ d) {K : Option Value → x_W → Prop} {w : x_W} {v0 : Int32} {v1 : Int32} {r : Int32} (h : fA_isWithin v0 v1 = r) (hK : K (some (.int r)) w) : x_M yA_isWithin cA_isWithin 2 (some .boolean) d 0 0 [.int v0, .int v1] w K := by
  refine x_M.of [some (.int v0), some (.int v1)] (by decide) rfl (Nat.le_of_ble_eq_true rfl) ?_
  unfold fA_isWithin at h
  refine g_iload_n 1 (i := 0) dA_isWithin_0 rfl rfl rfl ?_
  refine g_iload_n 2 (i := 1) dA_isWithin_1 rfl rfl rfl ?_
  refine g_iconst 3 (-1 : Int32) dA_isWithin_2 rfl (by decide) ?_
  refine g_ixor 4 dA_isWithin_3 rfl ?_
  refine g_iand 5 dA_isWithin_4 rfl ?_
  by_cases c1 : (v0 &&& (v1 ^^^ (-1 : Int32))) = (0 : Int32)
  · rw [if_pos c1] at h
    refine g_if_ne_f 8 12 dA_isWithin_5 (by decide) rfl c1 ?_
    refine g_iconst 9 (1 : Int32) dA_isWithin_8 rfl (by decide) ?_
    refine g_goto 13 dA_isWithin_9 (by decide) ?_
    subst h
    exact g_zret rfl (by decide) dA_isWithin_13 hK
  · rw [if_neg c1] at h
    refine g_if_ne_t 12 dA_isWithin_5 (by decide) c1 ?_
    refine g_iconst 13 (0 : Int32) dA_isWithin_12 rfl (by decide) ?_
    subst h
    exact g_zret rfl (by decide) dA_isWithin_13 hK
/-! ActSurgery.placesBelow(I)I: level T -/
theorem dA_placesBelow_0 : decode cA_placesBelow 0 = .ok (.iconst 1, 1) := by decide +kernel
theorem dA_placesBelow_1 : decode cA_placesBelow 1 = .ok (.iload_n 0, 1) := by decide +kernel
theorem dA_placesBelow_2 : decode cA_placesBelow 2 = .ok (.ishl, 1) := by decide +kernel
theorem dA_placesBelow_3 : decode cA_placesBelow 3 = .ok (.iconst 1, 1) := by decide +kernel
theorem dA_placesBelow_4 : decode cA_placesBelow 4 = .ok (.isub, 1) := by decide +kernel
theorem dA_placesBelow_5 : decode cA_placesBelow 5 = .ok (.ireturn, 1) := by decide +kernel
def fA_placesBelow  (v0 : Int32) : Int32 :=
  (((1 : Int32) <<< (v0 &&& 31)) - (1 : Int32))
set_option maxHeartbeats 4000000 in
set_option maxRecDepth 100000 in
theorem mA_placesBelow (d : Nat) (hd : 1 ≤ d) {K : Option Value → x_W → Prop} {w : x_W} {v0 : Int32} {r : Int32} (h : fA_placesBelow v0 = r) (hK : K (some (.int r)) w) : x_M yA_placesBelow cA_placesBelow 1 (some .int) d 0 0 [.int v0] w K := by
  refine x_M.of [some (.int v0)] (by decide) rfl (Nat.le_of_ble_eq_true rfl) ?_
  unfold fA_placesBelow at h
  refine g_iconst 1 (1 : Int32) dA_placesBelow_0 rfl (by decide) ?_
  refine g_iload_n 2 (i := 0) dA_placesBelow_1 rfl rfl rfl ?_
  refine g_ishl 3 dA_placesBelow_2 rfl ?_
  refine g_iconst 4 (1 : Int32) dA_placesBelow_3 rfl (by decide) ?_
  refine g_isub 5 dA_placesBelow_4 rfl ?_
  subst h
  exact g_iret rfl dA_placesBelow_5 hK
/-! ActSurgery.parents(II)I: level X -/
theorem dA_parents_0 : decode cA_parents 0 = .ok (.aload_n 0, 1) := by decide +kernel
theorem dA_parents_1 : decode cA_parents 1 = .ok (.iload_n 1, 1) := by decide +kernel
theorem dA_parents_2 : decode cA_parents 2 = .ok (.invokevirtual 54, 3) := by decide +kernel
theorem dA_parents_5 : decode cA_parents 5 = .ok (.ifCond .eq 14, 3) := by decide +kernel
theorem dA_parents_8 : decode cA_parents 8 = .ok (.iload_n 2, 1) := by decide +kernel
theorem dA_parents_9 : decode cA_parents 9 = .ok (.iload_n 1, 1) := by decide +kernel
theorem dA_parents_10 : decode cA_parents 10 = .ok (.invokestatic 58, 3) := by decide +kernel
theorem dA_parents_13 : decode cA_parents 13 = .ok (.invokestatic 62, 3) := by decide +kernel
theorem dA_parents_16 : decode cA_parents 16 = .ok (.ifCond .ne 6, 3) := by decide +kernel
theorem dA_parents_19 : decode cA_parents 19 = .ok (.bipush (-2), 2) := by decide +kernel
theorem dA_parents_21 : decode cA_parents 21 = .ok (.ireturn, 1) := by decide +kernel
theorem dA_parents_22 : decode cA_parents 22 = .ok (.aload_n 0, 1) := by decide +kernel
theorem dA_parents_23 : decode cA_parents 23 = .ok (.getfield 10, 3) := by decide +kernel
theorem dA_parents_26 : decode cA_parents 26 = .ok (.getfield 43, 3) := by decide +kernel
theorem dA_parents_29 : decode cA_parents 29 = .ok (.getfield 66, 3) := by decide +kernel
theorem dA_parents_32 : decode cA_parents 32 = .ok (.iload_n 1, 1) := by decide +kernel
theorem dA_parents_33 : decode cA_parents 33 = .ok (.iaload, 1) := by decide +kernel
theorem dA_parents_34 : decode cA_parents 34 = .ok (.istore_n 3, 1) := by decide +kernel
theorem dA_parents_35 : decode cA_parents 35 = .ok (.aload_n 0, 1) := by decide +kernel
theorem dA_parents_36 : decode cA_parents 36 = .ok (.getfield 10, 3) := by decide +kernel
theorem dA_parents_39 : decode cA_parents 39 = .ok (.iload_n 1, 1) := by decide +kernel
theorem dA_parents_40 : decode cA_parents 40 = .ok (.iload_n 2, 1) := by decide +kernel
theorem dA_parents_41 : decode cA_parents 41 = .ok (.invokevirtual 70, 3) := by decide +kernel
theorem dA_parents_44 : decode cA_parents 44 = .ok (.iload_n 3, 1) := by decide +kernel
theorem dA_parents_45 : decode cA_parents 45 = .ok (.ireturn, 1) := by decide +kernel
theorem tw_1_145 : (Jvm.Cond.instanceMethod ({ cls := "ActSurgery", name := "isPlace", desc := "(I)Z" } : Jvm.MethodName)) ∈ x_GT := x_t1 145 rfl rfl
theorem tws_0 : (Jvm.Cond.selects "ActSurgery" ({ cls := "ActSurgery", name := "isPlace", desc := "(I)Z" } : Jvm.MethodName) ({ cls := "ActSurgery", name := "isPlace", desc := "(I)Z" } : Jvm.MethodName)) ∈ x_GT := x_ts 0 rfl rfl
theorem tw_1_146 : (Jvm.Cond.code ({ cls := "ActSurgery", name := "isPlace", desc := "(I)Z" } : Jvm.MethodName) prog_1_method_22_code (2 : Nat) (Option.some Jvm.ClassFile.FieldType.boolean)) ∈ x_GT := x_t1 146 rfl rfl
theorem tw_1_1 : (Jvm.Cond.initialized "ActSurgery") ∈ x_GT := x_t1 1 rfl rfl
theorem tw_1_143 : (Jvm.Cond.methodLink "ActSurgery" (54 : Nat) ({ cls := "ActSurgery", name := "isPlace", desc := "(I)Z" } : Jvm.MethodName)) ∈ x_GT := x_t1 143 rfl rfl
theorem kA_54 : x_kV "ActSurgery" 54 yA_isPlace cA_isPlace 2 (some .boolean) 1 0 := ⟨tw_1_145, tws_0, tw_1_146, tw_1_1, tw_1_143, (by decide +kernel), rfl⟩
theorem tw_1_148 : (Jvm.Cond.static ({ cls := "ActSurgery", name := "placesBelow", desc := "(I)I" } : Jvm.MethodName)) ∈ x_GT := x_t1 148 rfl rfl
theorem tw_1_149 : (Jvm.Cond.code ({ cls := "ActSurgery", name := "placesBelow", desc := "(I)I" } : Jvm.MethodName) prog_1_method_42_code (1 : Nat) (Option.some Jvm.ClassFile.FieldType.int)) ∈ x_GT := x_t1 149 rfl rfl
theorem tw_1_147 : (Jvm.Cond.methodLink "ActSurgery" (58 : Nat) ({ cls := "ActSurgery", name := "placesBelow", desc := "(I)I" } : Jvm.MethodName)) ∈ x_GT := x_t1 147 rfl rfl
theorem kA_58 : x_kS "ActSurgery" 58 yA_placesBelow cA_placesBelow 1 (some .int) 1 := ⟨tw_1_148, tw_1_149, tw_1_1, tw_1_147, (by decide +kernel)⟩
theorem tw_1_151 : (Jvm.Cond.static ({ cls := "ActSurgery", name := "isWithin", desc := "(II)Z" } : Jvm.MethodName)) ∈ x_GT := x_t1 151 rfl rfl
theorem tw_1_152 : (Jvm.Cond.code ({ cls := "ActSurgery", name := "isWithin", desc := "(II)Z" } : Jvm.MethodName) prog_1_method_41_code (2 : Nat) (Option.some Jvm.ClassFile.FieldType.boolean)) ∈ x_GT := x_t1 152 rfl rfl
theorem tw_1_150 : (Jvm.Cond.methodLink "ActSurgery" (62 : Nat) ({ cls := "ActSurgery", name := "isWithin", desc := "(II)Z" } : Jvm.MethodName)) ∈ x_GT := x_t1 150 rfl rfl
theorem kA_62 : x_kS "ActSurgery" 62 yA_isWithin cA_isWithin 2 (some .boolean) 2 := ⟨tw_1_151, tw_1_152, tw_1_1, tw_1_150, (by decide +kernel)⟩
theorem tw_1_36 : (Jvm.Cond.fieldLink "ActSurgery" (66 : Nat) "ActSurgery$Arrows" "parents" "[I") ∈ x_GT := x_t1 36 rfl rfl
theorem tw_1_153 : (Jvm.Cond.methodLink "ActSurgery" (70 : Nat) ({ cls := "ActSurgery$Graph", name := "putParents", desc := "(II)V" } : Jvm.MethodName)) ∈ x_GT := x_t1 153 rfl rfl
theorem kA_70 : x_kV "ActSurgery" 70 yG_putParents cG_putParents 4 none 2 2 := ⟨tw_1_49, tw_1_50, tw_1_51, tw_1_2, tw_1_153, (by decide +kernel), rfl⟩
def fA_parents  (w : x_W) (v0 : Nat) (v1 : Int32) (v2 : Int32) : Option (Int32 × x_W) :=
  (x_ob w v0 0).bind fun _ =>
  (fA_isPlace w v0 v1).bind fun t2 =>
  if t2 = (0 : Int32) then
    some ((-2 : Int32), w)
  else
    if (fA_isWithin v2 (fA_placesBelow v1)) = (0 : Int32) then
      some ((-2 : Int32), w)
    else
      (x_fr w v0 0 0).bind fun t5 =>
      (x_fr w t5 2 0).bind fun t6 =>
      (x_fr w t6 1 1).bind fun t7 =>
      (x_ai w t7 v1).bind fun t8 =>
      (fG_putParents w t5 v1 v2).bind fun w9 =>
      some (t8, w9)
set_option maxHeartbeats 4000000 in
set_option maxRecDepth 100000 in
theorem mA_parents (d : Nat) (hd : 3 ≤ d) {K : Option Value → x_W → Prop} {w : x_W} {v0 : Nat} {v1 : Int32} {v2 : Int32} {r : (Int32 × x_W)} (h : fA_parents w v0 v1 v2 = some r) (hK : K (some (.int r.1)) r.2) : x_M yA_parents cA_parents 4 (some .int) d 0 0 [.ref v0, .int v1, .int v2] w K := by
  refine x_M.of [some (.ref v0), some (.int v1), some (.int v2), none] (by decide) rfl (Nat.le_of_ble_eq_true rfl) ?_
  unfold fA_parents at h
  refine g_aload_n 1 (i := 0) dA_parents_0 rfl rfl rfl ?_
  refine g_iload_n 2 (i := 1) dA_parents_1 rfl rfl rfl ?_
  obtain ⟨_, e1, h⟩ := x_bind h
  obtain ⟨t2, e2, h⟩ := x_bind h
  refine g_cV 5 (some (.int t2)) w [.int v1] [] dA_parents_2 rfl (fun _ hK2 => mA_isPlace (d - 1) (by omega) e2 hK2) (x_ob_some e1) kA_54 (x_rm (Nat.le_trans (by decide) hd) (by decide)) ⟨Nat.zero_le _, Nat.zero_le _⟩ (Nat.le_of_ble_eq_true rfl) rfl ?_
  by_cases c3 : t2 = (0 : Int32)
  · rw [if_pos c3] at h
    refine g_if_eq_t 19 dA_parents_5 (by decide) c3 ?_
    refine g_bipush 21 (-2 : Int32) dA_parents_19 rfl (by decide) ?_
    obtain rfl := Option.some.inj h
    exact g_iret rfl dA_parents_21 hK
  · rw [if_neg c3] at h
    refine g_if_eq_f 8 19 dA_parents_5 (by decide) rfl c3 ?_
    refine g_iload_n 9 (i := 2) dA_parents_8 rfl rfl rfl ?_
    refine g_iload_n 10 (i := 1) dA_parents_9 rfl rfl rfl ?_
    refine g_cS 13 (some (.int (fA_placesBelow v1))) w [.int v1] [.int v2] dA_parents_10 rfl (fun _ hK2 => mA_placesBelow (d - 1) (by omega) rfl hK2) kA_58 (x_rm (Nat.le_trans (by decide) hd) (by decide)) ⟨Nat.zero_le _, Nat.zero_le _⟩ (Nat.le_of_ble_eq_true rfl) rfl ?_
    refine g_cS 16 (some (.int (fA_isWithin v2 (fA_placesBelow v1)))) w [.int v2, .int (fA_placesBelow v1)] [] dA_parents_13 rfl (fun _ hK2 => mA_isWithin (d - 1) (by omega) rfl hK2) kA_62 (x_rm (Nat.le_trans (by decide) hd) (by decide)) ⟨Nat.zero_le _, Nat.zero_le _⟩ (Nat.le_of_ble_eq_true rfl) rfl ?_
    by_cases c4 : (fA_isWithin v2 (fA_placesBelow v1)) = (0 : Int32)
    · rw [if_pos c4] at h
      refine g_if_ne_f 19 22 dA_parents_16 (by decide) rfl c4 ?_
      refine g_bipush 21 (-2 : Int32) dA_parents_19 rfl (by decide) ?_
      obtain rfl := Option.some.inj h
      exact g_iret rfl dA_parents_21 hK
    · rw [if_neg c4] at h
      refine g_if_ne_t 22 dA_parents_16 (by decide) c4 ?_
      refine g_aload_n 23 (i := 0) dA_parents_22 rfl rfl rfl ?_
      obtain ⟨t5, e5, h⟩ := x_bind h
      refine g_getfR 26 0 0 dA_parents_23 rfl x_in0 tw_1_115 rfl (by decide) e5 ?_
      obtain ⟨t6, e6, h⟩ := x_bind h
      refine g_getfR 29 2 0 dA_parents_26 rfl x_in2 tw_1_57 rfl (by decide) e6 ?_
      obtain ⟨t7, e7, h⟩ := x_bind h
      refine g_getfR 32 1 1 dA_parents_29 rfl x_in1 tw_1_36 rfl (by decide) e7 ?_
      refine g_iload_n 33 (i := 1) dA_parents_32 rfl rfl rfl ?_
      obtain ⟨t8, e8, h⟩ := x_bind h
      refine g_iald 34 dA_parents_33 rfl e8 ?_
      refine g_istore_n 35 (i := 3) [some (.ref v0), some (.int v1), some (.int v2), some (.int t8)] dA_parents_34 rfl rfl rfl (by decide) ?_
      refine g_aload_n 36 (i := 0) dA_parents_35 rfl rfl rfl ?_
      refine g_getfR 39 0 0 dA_parents_36 rfl x_in0 tw_1_115 rfl (by decide) e5 ?_
      refine g_iload_n 40 (i := 1) dA_parents_39 rfl rfl rfl ?_
      refine g_iload_n 41 (i := 2) dA_parents_40 rfl rfl rfl ?_
      obtain ⟨w9, e9, h⟩ := x_bind h
      refine g_cV 44 none w9 [.int v1, .int v2] [] dA_parents_41 rfl (fun _ hK2 => mG_putParents (d - 1) (by omega) e9 hK2) (x_fr_ob e6) kA_70 (x_rm (Nat.le_trans (by decide) hd) (by decide)) ⟨Nat.zero_le _, Nat.zero_le _⟩ (Nat.le_of_ble_eq_true rfl) rfl ?_
      refine g_iload_n 45 (i := 3) dA_parents_44 rfl rfl rfl ?_
      obtain rfl := Option.some.inj h
      exact g_iret rfl dA_parents_45 hK
/-! ActSurgery$Graph.weightAt(II)I: level P -/
theorem dG_weightAt_0 : decode cG_weightAt 0 = .ok (.aload_n 0, 1) := by decide +kernel
theorem dG_weightAt_1 : decode cG_weightAt 1 = .ok (.getfield 18, 3) := by decide +kernel
theorem dG_weightAt_4 : decode cG_weightAt 4 = .ok (.iload_n 1, 1) := by decide +kernel
theorem dG_weightAt_5 : decode cG_weightAt 5 = .ok (.bipush 32, 2) := by decide +kernel
theorem dG_weightAt_7 : decode cG_weightAt 7 = .ok (.imul, 1) := by decide +kernel
theorem dG_weightAt_8 : decode cG_weightAt 8 = .ok (.iload_n 2, 1) := by decide +kernel
theorem dG_weightAt_9 : decode cG_weightAt 9 = .ok (.aload_n 0, 1) := by decide +kernel
theorem dG_weightAt_10 : decode cG_weightAt 10 = .ok (.getfield 12, 3) := by decide +kernel
theorem dG_weightAt_13 : decode cG_weightAt 13 = .ok (.getfield 47, 3) := by decide +kernel
theorem dG_weightAt_16 : decode cG_weightAt 16 = .ok (.iload_n 1, 1) := by decide +kernel
theorem dG_weightAt_17 : decode cG_weightAt 17 = .ok (.iaload, 1) := by decide +kernel
theorem dG_weightAt_18 : decode cG_weightAt 18 = .ok (.iand, 1) := by decide +kernel
theorem dG_weightAt_19 : decode cG_weightAt 19 = .ok (.iadd, 1) := by decide +kernel
theorem dG_weightAt_20 : decode cG_weightAt 20 = .ok (.iaload, 1) := by decide +kernel
theorem dG_weightAt_21 : decode cG_weightAt 21 = .ok (.ireturn, 1) := by decide +kernel
def fG_weightAt (w : x_W) (v0 : Nat) (v1 : Int32) (v2 : Int32) : Option Int32 :=
  (x_fr w v0 2 1).bind fun t1 =>
  (x_fr w v0 2 0).bind fun t2 =>
  (x_fr w t2 1 1).bind fun t3 =>
  (x_ai w t3 v1).bind fun t4 =>
  (x_ai w t1 ((v1 * (32 : Int32)) + (v2 &&& t4))).bind fun t5 =>
  some t5
set_option maxHeartbeats 4000000 in
set_option maxRecDepth 100000 in
theorem mG_weightAt (d : Nat) (hd : 1 ≤ d) {K : Option Value → x_W → Prop} {w : x_W} {v0 : Nat} {v1 : Int32} {v2 : Int32} {r : Int32} (h : fG_weightAt w v0 v1 v2 = some r) (hK : K (some (.int r)) w) : x_M yG_weightAt cG_weightAt 3 (some .int) d 0 0 [.ref v0, .int v1, .int v2] w K := by
  refine x_M.of [some (.ref v0), some (.int v1), some (.int v2)] (by decide) rfl (Nat.le_of_ble_eq_true rfl) ?_
  unfold fG_weightAt at h
  refine g_aload_n 1 (i := 0) dG_weightAt_0 rfl rfl rfl ?_
  obtain ⟨t1, e1, h⟩ := x_bind h
  refine g_getfR 4 2 1 dG_weightAt_1 rfl x_in2 tw_1_58 rfl (by decide) e1 ?_
  refine g_iload_n 5 (i := 1) dG_weightAt_4 rfl rfl rfl ?_
  refine g_bipush 7 (32 : Int32) dG_weightAt_5 rfl (by decide) ?_
  refine g_imul 8 dG_weightAt_7 rfl ?_
  refine g_iload_n 9 (i := 2) dG_weightAt_8 rfl rfl rfl ?_
  refine g_aload_n 10 (i := 0) dG_weightAt_9 rfl rfl rfl ?_
  obtain ⟨t2, e2, h⟩ := x_bind h
  refine g_getfR 13 2 0 dG_weightAt_10 rfl x_in2 tw_1_56 rfl (by decide) e2 ?_
  obtain ⟨t3, e3, h⟩ := x_bind h
  refine g_getfR 16 1 1 dG_weightAt_13 rfl x_in1 tw_1_37 rfl (by decide) e3 ?_
  refine g_iload_n 17 (i := 1) dG_weightAt_16 rfl rfl rfl ?_
  obtain ⟨t4, e4, h⟩ := x_bind h
  refine g_iald 18 dG_weightAt_17 rfl e4 ?_
  refine g_iand 19 dG_weightAt_18 rfl ?_
  refine g_iadd 20 dG_weightAt_19 rfl ?_
  obtain ⟨t5, e5, h⟩ := x_bind h
  refine g_iald 21 dG_weightAt_20 rfl e5 ?_
  obtain rfl := Option.some.inj h
  exact g_iret rfl dG_weightAt_21 hK
/-! ActSurgery.weight(III)I: level X -/
theorem dA_weight_0 : decode cA_weight 0 = .ok (.aload_n 0, 1) := by decide +kernel
theorem dA_weight_1 : decode cA_weight 1 = .ok (.iload_n 1, 1) := by decide +kernel
theorem dA_weight_2 : decode cA_weight 2 = .ok (.invokevirtual 54, 3) := by decide +kernel
theorem dA_weight_5 : decode cA_weight 5 = .ok (.ifCond .eq 32, 3) := by decide +kernel
theorem dA_weight_8 : decode cA_weight 8 = .ok (.iload_n 2, 1) := by decide +kernel
theorem dA_weight_9 : decode cA_weight 9 = .ok (.aload_n 0, 1) := by decide +kernel
theorem dA_weight_10 : decode cA_weight 10 = .ok (.getfield 10, 3) := by decide +kernel
theorem dA_weight_13 : decode cA_weight 13 = .ok (.getfield 43, 3) := by decide +kernel
theorem dA_weight_16 : decode cA_weight 16 = .ok (.getfield 66, 3) := by decide +kernel
theorem dA_weight_19 : decode cA_weight 19 = .ok (.iload_n 1, 1) := by decide +kernel
theorem dA_weight_20 : decode cA_weight 20 = .ok (.iaload, 1) := by decide +kernel
theorem dA_weight_21 : decode cA_weight 21 = .ok (.invokestatic 62, 3) := by decide +kernel
theorem dA_weight_24 : decode cA_weight 24 = .ok (.ifCond .eq 13, 3) := by decide +kernel
theorem dA_weight_27 : decode cA_weight 27 = .ok (.iload_n 3, 1) := by decide +kernel
theorem dA_weight_28 : decode cA_weight 28 = .ok (.ifCond .lt 9, 3) := by decide +kernel
theorem dA_weight_31 : decode cA_weight 31 = .ok (.iload_n 3, 1) := by decide +kernel
theorem dA_weight_32 : decode cA_weight 32 = .ok (.bipush 16, 2) := by decide +kernel
theorem dA_weight_34 : decode cA_weight 34 = .ok (.if_icmp .le 6, 3) := by decide +kernel
theorem dA_weight_37 : decode cA_weight 37 = .ok (.bipush (-2), 2) := by decide +kernel
theorem dA_weight_39 : decode cA_weight 39 = .ok (.ireturn, 1) := by decide +kernel
theorem dA_weight_40 : decode cA_weight 40 = .ok (.aload_n 0, 1) := by decide +kernel
theorem dA_weight_41 : decode cA_weight 41 = .ok (.getfield 10, 3) := by decide +kernel
theorem dA_weight_44 : decode cA_weight 44 = .ok (.iload_n 1, 1) := by decide +kernel
theorem dA_weight_45 : decode cA_weight 45 = .ok (.iload_n 2, 1) := by decide +kernel
theorem dA_weight_46 : decode cA_weight 46 = .ok (.invokevirtual 74, 3) := by decide +kernel
theorem dA_weight_49 : decode cA_weight 49 = .ok (.istore 4, 2) := by decide +kernel
theorem dA_weight_51 : decode cA_weight 51 = .ok (.aload_n 0, 1) := by decide +kernel
theorem dA_weight_52 : decode cA_weight 52 = .ok (.getfield 10, 3) := by decide +kernel
theorem dA_weight_55 : decode cA_weight 55 = .ok (.iload_n 1, 1) := by decide +kernel
theorem dA_weight_56 : decode cA_weight 56 = .ok (.iload_n 2, 1) := by decide +kernel
theorem dA_weight_57 : decode cA_weight 57 = .ok (.iload_n 3, 1) := by decide +kernel
theorem dA_weight_58 : decode cA_weight 58 = .ok (.invokevirtual 78, 3) := by decide +kernel
theorem dA_weight_61 : decode cA_weight 61 = .ok (.iload 4, 2) := by decide +kernel
theorem dA_weight_63 : decode cA_weight 63 = .ok (.ireturn, 1) := by decide +kernel
theorem tw_1_159 : (Jvm.Cond.instanceMethod ({ cls := "ActSurgery$Graph", name := "weightAt", desc := "(II)I" } : Jvm.MethodName)) ∈ x_GT := x_t1 159 rfl rfl
theorem tw_1_160 : (Jvm.Cond.selects "ActSurgery$Graph" ({ cls := "ActSurgery$Graph", name := "weightAt", desc := "(II)I" } : Jvm.MethodName) ({ cls := "ActSurgery$Graph", name := "weightAt", desc := "(II)I" } : Jvm.MethodName)) ∈ x_GT := x_t1 160 rfl rfl
theorem tw_1_161 : (Jvm.Cond.code ({ cls := "ActSurgery$Graph", name := "weightAt", desc := "(II)I" } : Jvm.MethodName) prog_3_method_6_code (3 : Nat) (Option.some Jvm.ClassFile.FieldType.int)) ∈ x_GT := x_t1 161 rfl rfl
theorem tw_1_158 : (Jvm.Cond.methodLink "ActSurgery" (74 : Nat) ({ cls := "ActSurgery$Graph", name := "weightAt", desc := "(II)I" } : Jvm.MethodName)) ∈ x_GT := x_t1 158 rfl rfl
theorem kA_74 : x_kV "ActSurgery" 74 yG_weightAt cG_weightAt 3 (some .int) 2 2 := ⟨tw_1_159, tw_1_160, tw_1_161, tw_1_2, tw_1_158, (by decide +kernel), rfl⟩
theorem tw_1_162 : (Jvm.Cond.methodLink "ActSurgery" (78 : Nat) ({ cls := "ActSurgery$Graph", name := "putWeight", desc := "(III)V" } : Jvm.MethodName)) ∈ x_GT := x_t1 162 rfl rfl
theorem kA_78 : x_kV "ActSurgery" 78 yG_putWeight cG_putWeight 4 none 3 2 := ⟨tw_1_53, tw_1_54, tw_1_55, tw_1_2, tw_1_162, (by decide +kernel), rfl⟩
def fA_weight  (w : x_W) (v0 : Nat) (v1 : Int32) (v2 : Int32) (v3 : Int32) : Option (Int32 × x_W) :=
  (x_ob w v0 0).bind fun _ =>
  (fA_isPlace w v0 v1).bind fun t2 =>
  if t2 = (0 : Int32) then
    some ((-2 : Int32), w)
  else
    (x_fr w v0 0 0).bind fun t4 =>
    (x_fr w t4 2 0).bind fun t5 =>
    (x_fr w t5 1 1).bind fun t6 =>
    (x_ai w t6 v1).bind fun t7 =>
    if (fA_isWithin v2 t7) = (0 : Int32) then
      some ((-2 : Int32), w)
    else
      if v3 < (0 : Int32) then
        some ((-2 : Int32), w)
      else
        if v3 ≤ (16 : Int32) then
          (fG_weightAt w t4 v1 v2).bind fun t11 =>
          (fG_putWeight w t4 v1 v2 v3).bind fun w12 =>
          some (t11, w12)
        else
          some ((-2 : Int32), w)
set_option maxHeartbeats 4000000 in
set_option maxRecDepth 100000 in
theorem mA_weight (d : Nat) (hd : 2 ≤ d) {K : Option Value → x_W → Prop} {w : x_W} {v0 : Nat} {v1 : Int32} {v2 : Int32} {v3 : Int32} {r : (Int32 × x_W)} (h : fA_weight w v0 v1 v2 v3 = some r) (hK : K (some (.int r.1)) r.2) : x_M yA_weight cA_weight 5 (some .int) d 0 0 [.ref v0, .int v1, .int v2, .int v3] w K := by
  refine x_M.of [some (.ref v0), some (.int v1), some (.int v2), some (.int v3), none] (by decide) rfl (Nat.le_of_ble_eq_true rfl) ?_
  unfold fA_weight at h
  refine g_aload_n 1 (i := 0) dA_weight_0 rfl rfl rfl ?_
  refine g_iload_n 2 (i := 1) dA_weight_1 rfl rfl rfl ?_
  obtain ⟨_, e1, h⟩ := x_bind h
  obtain ⟨t2, e2, h⟩ := x_bind h
  refine g_cV 5 (some (.int t2)) w [.int v1] [] dA_weight_2 rfl (fun _ hK2 => mA_isPlace (d - 1) (by omega) e2 hK2) (x_ob_some e1) kA_54 (x_rm (Nat.le_trans (by decide) hd) (by decide)) ⟨Nat.zero_le _, Nat.zero_le _⟩ (Nat.le_of_ble_eq_true rfl) rfl ?_
  by_cases c3 : t2 = (0 : Int32)
  · rw [if_pos c3] at h
    refine g_if_eq_t 37 dA_weight_5 (by decide) c3 ?_
    refine g_bipush 39 (-2 : Int32) dA_weight_37 rfl (by decide) ?_
    obtain rfl := Option.some.inj h
    exact g_iret rfl dA_weight_39 hK
  · rw [if_neg c3] at h
    refine g_if_eq_f 8 37 dA_weight_5 (by decide) rfl c3 ?_
    refine g_iload_n 9 (i := 2) dA_weight_8 rfl rfl rfl ?_
    refine g_aload_n 10 (i := 0) dA_weight_9 rfl rfl rfl ?_
    obtain ⟨t4, e4, h⟩ := x_bind h
    refine g_getfR 13 0 0 dA_weight_10 rfl x_in0 tw_1_115 rfl (by decide) e4 ?_
    obtain ⟨t5, e5, h⟩ := x_bind h
    refine g_getfR 16 2 0 dA_weight_13 rfl x_in2 tw_1_57 rfl (by decide) e5 ?_
    obtain ⟨t6, e6, h⟩ := x_bind h
    refine g_getfR 19 1 1 dA_weight_16 rfl x_in1 tw_1_36 rfl (by decide) e6 ?_
    refine g_iload_n 20 (i := 1) dA_weight_19 rfl rfl rfl ?_
    obtain ⟨t7, e7, h⟩ := x_bind h
    refine g_iald 21 dA_weight_20 rfl e7 ?_
    refine g_cS 24 (some (.int (fA_isWithin v2 t7))) w [.int v2, .int t7] [] dA_weight_21 rfl (fun _ hK2 => mA_isWithin (d - 1) (by omega) rfl hK2) kA_62 (x_rm (Nat.le_trans (by decide) hd) (by decide)) ⟨Nat.zero_le _, Nat.zero_le _⟩ (Nat.le_of_ble_eq_true rfl) rfl ?_
    by_cases c8 : (fA_isWithin v2 t7) = (0 : Int32)
    · rw [if_pos c8] at h
      refine g_if_eq_t 37 dA_weight_24 (by decide) c8 ?_
      refine g_bipush 39 (-2 : Int32) dA_weight_37 rfl (by decide) ?_
      obtain rfl := Option.some.inj h
      exact g_iret rfl dA_weight_39 hK
    · rw [if_neg c8] at h
      refine g_if_eq_f 27 37 dA_weight_24 (by decide) rfl c8 ?_
      refine g_iload_n 28 (i := 3) dA_weight_27 rfl rfl rfl ?_
      by_cases c9 : v3 < (0 : Int32)
      · rw [if_pos c9] at h
        refine g_if_lt_t 37 dA_weight_28 (by decide) c9 ?_
        refine g_bipush 39 (-2 : Int32) dA_weight_37 rfl (by decide) ?_
        obtain rfl := Option.some.inj h
        exact g_iret rfl dA_weight_39 hK
      · rw [if_neg c9] at h
        refine g_if_lt_f 31 37 dA_weight_28 (by decide) rfl c9 ?_
        refine g_iload_n 32 (i := 3) dA_weight_31 rfl rfl rfl ?_
        refine g_bipush 34 (16 : Int32) dA_weight_32 rfl (by decide) ?_
        by_cases c10 : v3 ≤ (16 : Int32)
        · rw [if_pos c10] at h
          refine g_icmp_le_t 40 dA_weight_34 (by decide) c10 ?_
          refine g_aload_n 41 (i := 0) dA_weight_40 rfl rfl rfl ?_
          refine g_getfR 44 0 0 dA_weight_41 rfl x_in0 tw_1_115 rfl (by decide) e4 ?_
          refine g_iload_n 45 (i := 1) dA_weight_44 rfl rfl rfl ?_
          refine g_iload_n 46 (i := 2) dA_weight_45 rfl rfl rfl ?_
          obtain ⟨t11, e11, h⟩ := x_bind h
          refine g_cV 49 (some (.int t11)) w [.int v1, .int v2] [] dA_weight_46 rfl (fun _ hK2 => mG_weightAt (d - 1) (by omega) e11 hK2) (x_fr_ob e5) kA_74 (x_rm (Nat.le_trans (by decide) hd) (by decide)) ⟨Nat.zero_le _, Nat.zero_le _⟩ (Nat.le_of_ble_eq_true rfl) rfl ?_
          refine g_istore 51 [some (.ref v0), some (.int v1), some (.int v2), some (.int v3), some (.int t11)] dA_weight_49 rfl rfl (by decide) ?_
          refine g_aload_n 52 (i := 0) dA_weight_51 rfl rfl rfl ?_
          refine g_getfR 55 0 0 dA_weight_52 rfl x_in0 tw_1_115 rfl (by decide) e4 ?_
          refine g_iload_n 56 (i := 1) dA_weight_55 rfl rfl rfl ?_
          refine g_iload_n 57 (i := 2) dA_weight_56 rfl rfl rfl ?_
          refine g_iload_n 58 (i := 3) dA_weight_57 rfl rfl rfl ?_
          obtain ⟨w12, e12, h⟩ := x_bind h
          refine g_cV 61 none w12 [.int v1, .int v2, .int v3] [] dA_weight_58 rfl (fun _ hK2 => mG_putWeight (d - 1) (by omega) e12 hK2) (x_fr_ob e5) kA_78 (x_rm (Nat.le_trans (by decide) hd) (by decide)) ⟨Nat.zero_le _, Nat.zero_le _⟩ (Nat.le_of_ble_eq_true rfl) rfl ?_
          refine g_iload 63 dA_weight_61 rfl rfl ?_
          obtain rfl := Option.some.inj h
          exact g_iret rfl dA_weight_63 hK
        · rw [if_neg c10] at h
          refine g_icmp_le_f 37 40 dA_weight_34 (by decide) rfl c10 ?_
          refine g_bipush 39 (-2 : Int32) dA_weight_37 rfl (by decide) ?_
          obtain rfl := Option.some.inj h
          exact g_iret rfl dA_weight_39 hK
/-! ActSurgery.asNumber(Z)I: level T -/
theorem dA_asNumber_0 : decode cA_asNumber 0 = .ok (.iload_n 0, 1) := by decide +kernel
theorem dA_asNumber_1 : decode cA_asNumber 1 = .ok (.ifCond .eq 7, 3) := by decide +kernel
theorem dA_asNumber_4 : decode cA_asNumber 4 = .ok (.iconst 1, 1) := by decide +kernel
theorem dA_asNumber_5 : decode cA_asNumber 5 = .ok (.goto 4, 3) := by decide +kernel
theorem dA_asNumber_8 : decode cA_asNumber 8 = .ok (.iconst 0, 1) := by decide +kernel
theorem dA_asNumber_9 : decode cA_asNumber 9 = .ok (.ireturn, 1) := by decide +kernel
def fA_asNumber  (v0 : Int32) : Int32 :=
  if v0 = (0 : Int32) then
    (0 : Int32)
  else
    (1 : Int32)
set_option maxHeartbeats 4000000 in
set_option maxRecDepth 100000 in
theorem mA_asNumber (d : Nat) (hd : 1 ≤ d) {K : Option Value → x_W → Prop} {w : x_W} {v0 : Int32} {r : Int32} (h : fA_asNumber v0 = r) (hK : K (some (.int r)) w) : x_M yA_asNumber cA_asNumber 1 (some .int) d 0 0 [.int v0] w K := by
  refine x_M.of [some (.int v0)] (by decide) rfl (Nat.le_of_ble_eq_true rfl) ?_
  unfold fA_asNumber at h
  refine g_iload_n 1 (i := 0) dA_asNumber_0 rfl rfl rfl ?_
  by_cases c1 : v0 = (0 : Int32)
  · rw [if_pos c1] at h
    refine g_if_eq_t 8 dA_asNumber_1 (by decide) c1 ?_
    refine g_iconst 9 (0 : Int32) dA_asNumber_8 rfl (by decide) ?_
    subst h
    exact g_iret rfl dA_asNumber_9 hK
  · rw [if_neg c1] at h
    refine g_if_eq_f 4 8 dA_asNumber_1 (by decide) rfl c1 ?_
    refine g_iconst 5 (1 : Int32) dA_asNumber_4 rfl (by decide) ?_
    refine g_goto 9 dA_asNumber_5 (by decide) ?_
    subst h
    exact g_iret rfl dA_asNumber_9 hK
/-! ActSurgery.has(II)Z: level T -/
theorem dA_has_0 : decode cA_has 0 = .ok (.iload_n 0, 1) := by decide +kernel
theorem dA_has_1 : decode cA_has 1 = .ok (.iload_n 1, 1) := by decide +kernel
theorem dA_has_2 : decode cA_has 2 = .ok (.ishr, 1) := by decide +kernel
theorem dA_has_3 : decode cA_has 3 = .ok (.iconst 1, 1) := by decide +kernel
theorem dA_has_4 : decode cA_has 4 = .ok (.iand, 1) := by decide +kernel
theorem dA_has_5 : decode cA_has 5 = .ok (.ifCond .eq 7, 3) := by decide +kernel
theorem dA_has_8 : decode cA_has 8 = .ok (.iconst 1, 1) := by decide +kernel
theorem dA_has_9 : decode cA_has 9 = .ok (.goto 4, 3) := by decide +kernel
theorem dA_has_12 : decode cA_has 12 = .ok (.iconst 0, 1) := by decide +kernel
theorem dA_has_13 : decode cA_has 13 = .ok (.ireturn, 1) := by decide +kernel
def fA_has  (v0 : Int32) (v1 : Int32) : Int32 :=
  if ((v0 >>> (v1 &&& 31)) &&& (1 : Int32)) = (0 : Int32) then
    (0 : Int32)
  else
    (1 : Int32)
set_option maxHeartbeats 4000000 in
set_option maxRecDepth 100000 in
theorem mA_has (d : Nat) (hd : 1 ≤ d) {K : Option Value → x_W → Prop} {w : x_W} {v0 : Int32} {v1 : Int32} {r : Int32} (h : fA_has v0 v1 = r) (hK : K (some (.int r)) w) : x_M yA_has cA_has 2 (some .boolean) d 0 0 [.int v0, .int v1] w K := by
  refine x_M.of [some (.int v0), some (.int v1)] (by decide) rfl (Nat.le_of_ble_eq_true rfl) ?_
  unfold fA_has at h
  refine g_iload_n 1 (i := 0) dA_has_0 rfl rfl rfl ?_
  refine g_iload_n 2 (i := 1) dA_has_1 rfl rfl rfl ?_
  refine g_ishr 3 dA_has_2 rfl ?_
  refine g_iconst 4 (1 : Int32) dA_has_3 rfl (by decide) ?_
  refine g_iand 5 dA_has_4 rfl ?_
  by_cases c1 : ((v0 >>> (v1 &&& 31)) &&& (1 : Int32)) = (0 : Int32)
  · rw [if_pos c1] at h
    refine g_if_eq_t 12 dA_has_5 (by decide) c1 ?_
    refine g_iconst 13 (0 : Int32) dA_has_12 rfl (by decide) ?_
    subst h
    exact g_zret rfl (by decide) dA_has_13 hK
  · rw [if_neg c1] at h
    refine g_if_eq_f 8 12 dA_has_5 (by decide) rfl c1 ?_
    refine g_iconst 9 (1 : Int32) dA_has_8 rfl (by decide) ?_
    refine g_goto 13 dA_has_9 (by decide) ?_
    subst h
    exact g_zret rfl (by decide) dA_has_13 hK
/-! ActSurgery.hide(IZ)I: level X -/
theorem dA_hide_0 : decode cA_hide 0 = .ok (.aload_n 0, 1) := by decide +kernel
theorem dA_hide_1 : decode cA_hide 1 = .ok (.iload_n 1, 1) := by decide +kernel
theorem dA_hide_2 : decode cA_hide 2 = .ok (.invokevirtual 54, 3) := by decide +kernel
theorem dA_hide_5 : decode cA_hide 5 = .ok (.ifCond .ne 6, 3) := by decide +kernel
theorem dA_hide_8 : decode cA_hide 8 = .ok (.bipush (-2), 2) := by decide +kernel
theorem dA_hide_10 : decode cA_hide 10 = .ok (.ireturn, 1) := by decide +kernel
theorem dA_hide_11 : decode cA_hide 11 = .ok (.aload_n 0, 1) := by decide +kernel
theorem dA_hide_12 : decode cA_hide 12 = .ok (.getfield 10, 3) := by decide +kernel
theorem dA_hide_15 : decode cA_hide 15 = .ok (.getfield 82, 3) := by decide +kernel
theorem dA_hide_18 : decode cA_hide 18 = .ok (.iload_n 1, 1) := by decide +kernel
theorem dA_hide_19 : decode cA_hide 19 = .ok (.invokestatic 85, 3) := by decide +kernel
theorem dA_hide_22 : decode cA_hide 22 = .ok (.istore_n 3, 1) := by decide +kernel
theorem dA_hide_23 : decode cA_hide 23 = .ok (.aload_n 0, 1) := by decide +kernel
theorem dA_hide_24 : decode cA_hide 24 = .ok (.getfield 10, 3) := by decide +kernel
theorem dA_hide_27 : decode cA_hide 27 = .ok (.iload_n 2, 1) := by decide +kernel
theorem dA_hide_28 : decode cA_hide 28 = .ok (.ifCond .eq 17, 3) := by decide +kernel
theorem dA_hide_31 : decode cA_hide 31 = .ok (.aload_n 0, 1) := by decide +kernel
theorem dA_hide_32 : decode cA_hide 32 = .ok (.getfield 10, 3) := by decide +kernel
theorem dA_hide_35 : decode cA_hide 35 = .ok (.getfield 82, 3) := by decide +kernel
theorem dA_hide_38 : decode cA_hide 38 = .ok (.iconst 1, 1) := by decide +kernel
theorem dA_hide_39 : decode cA_hide 39 = .ok (.iload_n 1, 1) := by decide +kernel
theorem dA_hide_40 : decode cA_hide 40 = .ok (.ishl, 1) := by decide +kernel
theorem dA_hide_41 : decode cA_hide 41 = .ok (.ior, 1) := by decide +kernel
theorem dA_hide_42 : decode cA_hide 42 = .ok (.goto 16, 3) := by decide +kernel
theorem dA_hide_45 : decode cA_hide 45 = .ok (.aload_n 0, 1) := by decide +kernel
theorem dA_hide_46 : decode cA_hide 46 = .ok (.getfield 10, 3) := by decide +kernel
theorem dA_hide_49 : decode cA_hide 49 = .ok (.getfield 82, 3) := by decide +kernel
theorem dA_hide_52 : decode cA_hide 52 = .ok (.iconst 1, 1) := by decide +kernel
theorem dA_hide_53 : decode cA_hide 53 = .ok (.iload_n 1, 1) := by decide +kernel
theorem dA_hide_54 : decode cA_hide 54 = .ok (.ishl, 1) := by decide +kernel
theorem dA_hide_55 : decode cA_hide 55 = .ok (.iconst (-1), 1) := by decide +kernel
theorem dA_hide_56 : decode cA_hide 56 = .ok (.ixor, 1) := by decide +kernel
theorem dA_hide_57 : decode cA_hide 57 = .ok (.iand, 1) := by decide +kernel
theorem dA_hide_58 : decode cA_hide 58 = .ok (.putfield 82, 3) := by decide +kernel
theorem dA_hide_61 : decode cA_hide 61 = .ok (.iload_n 3, 1) := by decide +kernel
theorem dA_hide_62 : decode cA_hide 62 = .ok (.invokestatic 88, 3) := by decide +kernel
theorem dA_hide_65 : decode cA_hide 65 = .ok (.ireturn, 1) := by decide +kernel
theorem tw_1_60 : (Jvm.Cond.fieldLink "ActSurgery" (82 : Nat) "ActSurgery$Graph" "hidden" "I") ∈ x_GT := x_t1 60 rfl rfl
theorem tw_1_168 : (Jvm.Cond.static ({ cls := "ActSurgery", name := "has", desc := "(II)Z" } : Jvm.MethodName)) ∈ x_GT := x_t1 168 rfl rfl
theorem tw_1_169 : (Jvm.Cond.code ({ cls := "ActSurgery", name := "has", desc := "(II)Z" } : Jvm.MethodName) prog_1_method_40_code (2 : Nat) (Option.some Jvm.ClassFile.FieldType.boolean)) ∈ x_GT := x_t1 169 rfl rfl
theorem tw_1_167 : (Jvm.Cond.methodLink "ActSurgery" (85 : Nat) ({ cls := "ActSurgery", name := "has", desc := "(II)Z" } : Jvm.MethodName)) ∈ x_GT := x_t1 167 rfl rfl
theorem kA_85 : x_kS "ActSurgery" 85 yA_has cA_has 2 (some .boolean) 2 := ⟨tw_1_168, tw_1_169, tw_1_1, tw_1_167, (by decide +kernel)⟩
theorem tw_1_171 : (Jvm.Cond.static ({ cls := "ActSurgery", name := "asNumber", desc := "(Z)I" } : Jvm.MethodName)) ∈ x_GT := x_t1 171 rfl rfl
theorem tw_1_172 : (Jvm.Cond.code ({ cls := "ActSurgery", name := "asNumber", desc := "(Z)I" } : Jvm.MethodName) prog_1_method_39_code (1 : Nat) (Option.some Jvm.ClassFile.FieldType.int)) ∈ x_GT := x_t1 172 rfl rfl
theorem tw_1_170 : (Jvm.Cond.methodLink "ActSurgery" (88 : Nat) ({ cls := "ActSurgery", name := "asNumber", desc := "(Z)I" } : Jvm.MethodName)) ∈ x_GT := x_t1 170 rfl rfl
theorem kA_88 : x_kS "ActSurgery" 88 yA_asNumber cA_asNumber 1 (some .int) 1 := ⟨tw_1_171, tw_1_172, tw_1_1, tw_1_170, (by decide +kernel)⟩
def fA_hide  (w : x_W) (v0 : Nat) (v1 : Int32) (v2 : Int32) : Option (Int32 × x_W) :=
  (x_ob w v0 0).bind fun _ =>
  (fA_isPlace w v0 v1).bind fun t2 =>
  if t2 = (0 : Int32) then
    some ((-2 : Int32), w)
  else
    (x_fr w v0 0 0).bind fun t4 =>
    (x_fi w t4 2 2).bind fun t5 =>
    if v2 = (0 : Int32) then
      (x_pf w t4 2 2 (.int (t5 &&& (((1 : Int32) <<< (v1 &&& 31)) ^^^ (-1 : Int32))))).bind fun w7 =>
      some ((fA_asNumber (fA_has t5 v1)), w7)
    else
      (x_pf w t4 2 2 (.int (t5 ||| ((1 : Int32) <<< (v1 &&& 31))))).bind fun w8 =>
      some ((fA_asNumber (fA_has t5 v1)), w8)
set_option maxHeartbeats 4000000 in
set_option maxRecDepth 100000 in
theorem mA_hide (d : Nat) (hd : 2 ≤ d) {K : Option Value → x_W → Prop} {w : x_W} {v0 : Nat} {v1 : Int32} {v2 : Int32} {r : (Int32 × x_W)} (h : fA_hide w v0 v1 v2 = some r) (hK : K (some (.int r.1)) r.2) : x_M yA_hide cA_hide 4 (some .int) d 0 0 [.ref v0, .int v1, .int v2] w K := by
  refine x_M.of [some (.ref v0), some (.int v1), some (.int v2), none] (by decide) rfl (Nat.le_of_ble_eq_true rfl) ?_
  unfold fA_hide at h
  refine g_aload_n 1 (i := 0) dA_hide_0 rfl rfl rfl ?_
  refine g_iload_n 2 (i := 1) dA_hide_1 rfl rfl rfl ?_
  obtain ⟨_, e1, h⟩ := x_bind h
  obtain ⟨t2, e2, h⟩ := x_bind h
  refine g_cV 5 (some (.int t2)) w [.int v1] [] dA_hide_2 rfl (fun _ hK2 => mA_isPlace (d - 1) (by omega) e2 hK2) (x_ob_some e1) kA_54 (x_rm (Nat.le_trans (by decide) hd) (by decide)) ⟨Nat.zero_le _, Nat.zero_le _⟩ (Nat.le_of_ble_eq_true rfl) rfl ?_
  by_cases c3 : t2 = (0 : Int32)
  · rw [if_pos c3] at h
    refine g_if_ne_f 8 11 dA_hide_5 (by decide) rfl c3 ?_
    refine g_bipush 10 (-2 : Int32) dA_hide_8 rfl (by decide) ?_
    obtain rfl := Option.some.inj h
    exact g_iret rfl dA_hide_10 hK
  · rw [if_neg c3] at h
    refine g_if_ne_t 11 dA_hide_5 (by decide) c3 ?_
    refine g_aload_n 12 (i := 0) dA_hide_11 rfl rfl rfl ?_
    obtain ⟨t4, e4, h⟩ := x_bind h
    refine g_getfR 15 0 0 dA_hide_12 rfl x_in0 tw_1_115 rfl (by decide) e4 ?_
    obtain ⟨t5, e5, h⟩ := x_bind h
    refine g_getfI 18 2 2 dA_hide_15 rfl x_in2 tw_1_60 rfl (by decide) e5 ?_
    refine g_iload_n 19 (i := 1) dA_hide_18 rfl rfl rfl ?_
    refine g_cS 22 (some (.int (fA_has t5 v1))) w [.int t5, .int v1] [] dA_hide_19 rfl (fun _ hK2 => mA_has (d - 1) (by omega) rfl hK2) kA_85 (x_rm (Nat.le_trans (by decide) hd) (by decide)) ⟨Nat.zero_le _, Nat.zero_le _⟩ (Nat.le_of_ble_eq_true rfl) rfl ?_
    refine g_istore_n 23 (i := 3) [some (.ref v0), some (.int v1), some (.int v2), some (.int (fA_has t5 v1))] dA_hide_22 rfl rfl rfl (by decide) ?_
    refine g_aload_n 24 (i := 0) dA_hide_23 rfl rfl rfl ?_
    refine g_getfR 27 0 0 dA_hide_24 rfl x_in0 tw_1_115 rfl (by decide) e4 ?_
    refine g_iload_n 28 (i := 2) dA_hide_27 rfl rfl rfl ?_
    by_cases c6 : v2 = (0 : Int32)
    · rw [if_pos c6] at h
      refine g_if_eq_t 45 dA_hide_28 (by decide) c6 ?_
      refine g_aload_n 46 (i := 0) dA_hide_45 rfl rfl rfl ?_
      refine g_getfR 49 0 0 dA_hide_46 rfl x_in0 tw_1_115 rfl (by decide) e4 ?_
      refine g_getfI 52 2 2 dA_hide_49 rfl x_in2 tw_1_60 rfl (by decide) e5 ?_
      refine g_iconst 53 (1 : Int32) dA_hide_52 rfl (by decide) ?_
      refine g_iload_n 54 (i := 1) dA_hide_53 rfl rfl rfl ?_
      refine g_ishl 55 dA_hide_54 rfl ?_
      refine g_iconst 56 (-1 : Int32) dA_hide_55 rfl (by decide) ?_
      refine g_ixor 57 dA_hide_56 rfl ?_
      refine g_iand 58 dA_hide_57 rfl ?_
      obtain ⟨w7, e7, h⟩ := x_bind h
      refine g_putf 61 2 2 xy2 xy2_ok xn2 dA_hide_58 rfl x_in2 tw_1_60 rfl (by decide) rfl (fun _ _ => ⟨rfl, rfl⟩) e7 ?_
      refine g_iload_n 62 (i := 3) dA_hide_61 rfl rfl rfl ?_
      refine g_cS 65 (some (.int (fA_asNumber (fA_has t5 v1)))) w7 [.int (fA_has t5 v1)] [] dA_hide_62 rfl (fun _ hK2 => mA_asNumber (d - 1) (by omega) rfl hK2) kA_88 (x_rm (Nat.le_trans (by decide) hd) (by decide)) ⟨Nat.zero_le _, Nat.zero_le _⟩ (Nat.le_of_ble_eq_true rfl) rfl ?_
      obtain rfl := Option.some.inj h
      exact g_iret rfl dA_hide_65 hK
    · rw [if_neg c6] at h
      refine g_if_eq_f 31 45 dA_hide_28 (by decide) rfl c6 ?_
      refine g_aload_n 32 (i := 0) dA_hide_31 rfl rfl rfl ?_
      refine g_getfR 35 0 0 dA_hide_32 rfl x_in0 tw_1_115 rfl (by decide) e4 ?_
      refine g_getfI 38 2 2 dA_hide_35 rfl x_in2 tw_1_60 rfl (by decide) e5 ?_
      refine g_iconst 39 (1 : Int32) dA_hide_38 rfl (by decide) ?_
      refine g_iload_n 40 (i := 1) dA_hide_39 rfl rfl rfl ?_
      refine g_ishl 41 dA_hide_40 rfl ?_
      refine g_ior 42 dA_hide_41 rfl ?_
      refine g_goto 58 dA_hide_42 (by decide) ?_
      obtain ⟨w8, e8, h⟩ := x_bind h
      refine g_putf 61 2 2 xy2 xy2_ok xn2 dA_hide_58 rfl x_in2 tw_1_60 rfl (by decide) rfl (fun _ _ => ⟨rfl, rfl⟩) e8 ?_
      refine g_iload_n 62 (i := 3) dA_hide_61 rfl rfl rfl ?_
      refine g_cS 65 (some (.int (fA_asNumber (fA_has t5 v1)))) w8 [.int (fA_has t5 v1)] [] dA_hide_62 rfl (fun _ hK2 => mA_asNumber (d - 1) (by omega) rfl hK2) kA_88 (x_rm (Nat.le_trans (by decide) hd) (by decide)) ⟨Nat.zero_le _, Nat.zero_le _⟩ (Nat.le_of_ble_eq_true rfl) rfl ?_
      obtain rfl := Option.some.inj h
      exact g_iret rfl dA_hide_65 hK
/-! ActSurgery.allPlaces()I: level P -/
theorem dA_allPlaces_0 : decode cA_allPlaces 0 = .ok (.aload_n 0, 1) := by decide +kernel
theorem dA_allPlaces_1 : decode cA_allPlaces 1 = .ok (.getfield 10, 3) := by decide +kernel
theorem dA_allPlaces_4 : decode cA_allPlaces 4 = .ok (.getfield 43, 3) := by decide +kernel
theorem dA_allPlaces_7 : decode cA_allPlaces 7 = .ok (.getfield 46, 3) := by decide +kernel
theorem dA_allPlaces_10 : decode cA_allPlaces 10 = .ok (.invokestatic 58, 3) := by decide +kernel
theorem dA_allPlaces_13 : decode cA_allPlaces 13 = .ok (.ireturn, 1) := by decide +kernel
def fA_allPlaces (w : x_W) (v0 : Nat) : Option Int32 :=
  (x_fr w v0 0 0).bind fun t1 =>
  (x_fr w t1 2 0).bind fun t2 =>
  (x_fi w t2 1 0).bind fun t3 =>
  some (fA_placesBelow t3)
set_option maxHeartbeats 4000000 in
set_option maxRecDepth 100000 in
theorem mA_allPlaces (d : Nat) (hd : 2 ≤ d) {K : Option Value → x_W → Prop} {w : x_W} {v0 : Nat} {r : Int32} (h : fA_allPlaces w v0 = some r) (hK : K (some (.int r)) w) : x_M yA_allPlaces cA_allPlaces 1 (some .int) d 0 0 [.ref v0] w K := by
  refine x_M.of [some (.ref v0)] (by decide) rfl (Nat.le_of_ble_eq_true rfl) ?_
  unfold fA_allPlaces at h
  refine g_aload_n 1 (i := 0) dA_allPlaces_0 rfl rfl rfl ?_
  obtain ⟨t1, e1, h⟩ := x_bind h
  refine g_getfR 4 0 0 dA_allPlaces_1 rfl x_in0 tw_1_115 rfl (by decide) e1 ?_
  obtain ⟨t2, e2, h⟩ := x_bind h
  refine g_getfR 7 2 0 dA_allPlaces_4 rfl x_in2 tw_1_57 rfl (by decide) e2 ?_
  obtain ⟨t3, e3, h⟩ := x_bind h
  refine g_getfI 10 1 0 dA_allPlaces_7 rfl x_in1 tw_1_33 rfl (by decide) e3 ?_
  refine g_cS 13 (some (.int (fA_placesBelow t3))) w [.int t3] [] dA_allPlaces_10 rfl (fun _ hK2 => mA_placesBelow (d - 1) (by omega) rfl hK2) kA_58 (x_rm (Nat.le_trans (by decide) hd) (by decide)) ⟨Nat.zero_le _, Nat.zero_le _⟩ (Nat.le_of_ble_eq_true rfl) rfl ?_
  obtain rfl := Option.some.inj h
  exact g_iret rfl dA_allPlaces_13 hK
/-! java/lang/Integer.bitCount(I)I: level T -/
theorem dI_bitCount_0 : decode cI_bitCount 0 = .ok (.iload_n 0, 1) := by decide +kernel
theorem dI_bitCount_1 : decode cI_bitCount 1 = .ok (.iload_n 0, 1) := by decide +kernel
theorem dI_bitCount_2 : decode cI_bitCount 2 = .ok (.iconst 1, 1) := by decide +kernel
theorem dI_bitCount_3 : decode cI_bitCount 3 = .ok (.iushr, 1) := by decide +kernel
theorem dI_bitCount_4 : decode cI_bitCount 4 = .ok (.ldc_w 265, 3) := by decide +kernel
theorem dI_bitCount_7 : decode cI_bitCount 7 = .ok (.iand, 1) := by decide +kernel
theorem dI_bitCount_8 : decode cI_bitCount 8 = .ok (.isub, 1) := by decide +kernel
theorem dI_bitCount_9 : decode cI_bitCount 9 = .ok (.istore_n 0, 1) := by decide +kernel
theorem dI_bitCount_10 : decode cI_bitCount 10 = .ok (.iload_n 0, 1) := by decide +kernel
theorem dI_bitCount_11 : decode cI_bitCount 11 = .ok (.ldc_w 266, 3) := by decide +kernel
theorem dI_bitCount_14 : decode cI_bitCount 14 = .ok (.iand, 1) := by decide +kernel
theorem dI_bitCount_15 : decode cI_bitCount 15 = .ok (.iload_n 0, 1) := by decide +kernel
theorem dI_bitCount_16 : decode cI_bitCount 16 = .ok (.iconst 2, 1) := by decide +kernel
theorem dI_bitCount_17 : decode cI_bitCount 17 = .ok (.iushr, 1) := by decide +kernel
theorem dI_bitCount_18 : decode cI_bitCount 18 = .ok (.ldc_w 266, 3) := by decide +kernel
theorem dI_bitCount_21 : decode cI_bitCount 21 = .ok (.iand, 1) := by decide +kernel
theorem dI_bitCount_22 : decode cI_bitCount 22 = .ok (.iadd, 1) := by decide +kernel
theorem dI_bitCount_23 : decode cI_bitCount 23 = .ok (.istore_n 0, 1) := by decide +kernel
theorem dI_bitCount_24 : decode cI_bitCount 24 = .ok (.iload_n 0, 1) := by decide +kernel
theorem dI_bitCount_25 : decode cI_bitCount 25 = .ok (.iload_n 0, 1) := by decide +kernel
theorem dI_bitCount_26 : decode cI_bitCount 26 = .ok (.iconst 4, 1) := by decide +kernel
theorem dI_bitCount_27 : decode cI_bitCount 27 = .ok (.iushr, 1) := by decide +kernel
theorem dI_bitCount_28 : decode cI_bitCount 28 = .ok (.iadd, 1) := by decide +kernel
theorem dI_bitCount_29 : decode cI_bitCount 29 = .ok (.ldc_w 267, 3) := by decide +kernel
theorem dI_bitCount_32 : decode cI_bitCount 32 = .ok (.iand, 1) := by decide +kernel
theorem dI_bitCount_33 : decode cI_bitCount 33 = .ok (.istore_n 0, 1) := by decide +kernel
theorem dI_bitCount_34 : decode cI_bitCount 34 = .ok (.iload_n 0, 1) := by decide +kernel
theorem dI_bitCount_35 : decode cI_bitCount 35 = .ok (.iload_n 0, 1) := by decide +kernel
theorem dI_bitCount_36 : decode cI_bitCount 36 = .ok (.bipush 8, 2) := by decide +kernel
theorem dI_bitCount_38 : decode cI_bitCount 38 = .ok (.iushr, 1) := by decide +kernel
theorem dI_bitCount_39 : decode cI_bitCount 39 = .ok (.iadd, 1) := by decide +kernel
theorem dI_bitCount_40 : decode cI_bitCount 40 = .ok (.istore_n 0, 1) := by decide +kernel
theorem dI_bitCount_41 : decode cI_bitCount 41 = .ok (.iload_n 0, 1) := by decide +kernel
theorem dI_bitCount_42 : decode cI_bitCount 42 = .ok (.iload_n 0, 1) := by decide +kernel
theorem dI_bitCount_43 : decode cI_bitCount 43 = .ok (.bipush 16, 2) := by decide +kernel
theorem dI_bitCount_45 : decode cI_bitCount 45 = .ok (.iushr, 1) := by decide +kernel
theorem dI_bitCount_46 : decode cI_bitCount 46 = .ok (.iadd, 1) := by decide +kernel
theorem dI_bitCount_47 : decode cI_bitCount 47 = .ok (.istore_n 0, 1) := by decide +kernel
theorem dI_bitCount_48 : decode cI_bitCount 48 = .ok (.iload_n 0, 1) := by decide +kernel
theorem dI_bitCount_49 : decode cI_bitCount 49 = .ok (.bipush 63, 2) := by decide +kernel
theorem dI_bitCount_51 : decode cI_bitCount 51 = .ok (.iand, 1) := by decide +kernel
theorem dI_bitCount_52 : decode cI_bitCount 52 = .ok (.ireturn, 1) := by decide +kernel
theorem tw_1_184 : (Jvm.Cond.constant "java/lang/Integer" (265 : Nat) (1431655765 : Int32)) ∈ x_GT := x_t1 184 rfl rfl
theorem tw_1_185 : (Jvm.Cond.constant "java/lang/Integer" (266 : Nat) (858993459 : Int32)) ∈ x_GT := x_t1 185 rfl rfl
theorem tw_1_186 : (Jvm.Cond.constant "java/lang/Integer" (267 : Nat) (252645135 : Int32)) ∈ x_GT := x_t1 186 rfl rfl
def fI_bitCount  (v0 : Int32) : Int32 :=
  ((((((((v0 - (((v0).toUInt32 >>> (((1 : Int32)).toUInt32 &&& Int32.toUInt32 31)).toInt32 &&& (1431655765 : Int32))) &&& (858993459 : Int32)) + ((((v0 - (((v0).toUInt32 >>> (((1 : Int32)).toUInt32 &&& Int32.toUInt32 31)).toInt32 &&& (1431655765 : Int32)))).toUInt32 >>> (((2 : Int32)).toUInt32 &&& Int32.toUInt32 31)).toInt32 &&& (858993459 : Int32))) + (((((v0 - (((v0).toUInt32 >>> (((1 : Int32)).toUInt32 &&& Int32.toUInt32 31)).toInt32 &&& (1431655765 : Int32))) &&& (858993459 : Int32)) + ((((v0 - (((v0).toUInt32 >>> (((1 : Int32)).toUInt32 &&& Int32.toUInt32 31)).toInt32 &&& (1431655765 : Int32)))).toUInt32 >>> (((2 : Int32)).toUInt32 &&& Int32.toUInt32 31)).toInt32 &&& (858993459 : Int32)))).toUInt32 >>> (((4 : Int32)).toUInt32 &&& Int32.toUInt32 31)).toInt32) &&& (252645135 : Int32)) + (((((((v0 - (((v0).toUInt32 >>> (((1 : Int32)).toUInt32 &&& Int32.toUInt32 31)).toInt32 &&& (1431655765 : Int32))) &&& (858993459 : Int32)) + ((((v0 - (((v0).toUInt32 >>> (((1 : Int32)).toUInt32 &&& Int32.toUInt32 31)).toInt32 &&& (1431655765 : Int32)))).toUInt32 >>> (((2 : Int32)).toUInt32 &&& Int32.toUInt32 31)).toInt32 &&& (858993459 : Int32))) + (((((v0 - (((v0).toUInt32 >>> (((1 : Int32)).toUInt32 &&& Int32.toUInt32 31)).toInt32 &&& (1431655765 : Int32))) &&& (858993459 : Int32)) + ((((v0 - (((v0).toUInt32 >>> (((1 : Int32)).toUInt32 &&& Int32.toUInt32 31)).toInt32 &&& (1431655765 : Int32)))).toUInt32 >>> (((2 : Int32)).toUInt32 &&& Int32.toUInt32 31)).toInt32 &&& (858993459 : Int32)))).toUInt32 >>> (((4 : Int32)).toUInt32 &&& Int32.toUInt32 31)).toInt32) &&& (252645135 : Int32))).toUInt32 >>> (((8 : Int32)).toUInt32 &&& Int32.toUInt32 31)).toInt32) + ((((((((v0 - (((v0).toUInt32 >>> (((1 : Int32)).toUInt32 &&& Int32.toUInt32 31)).toInt32 &&& (1431655765 : Int32))) &&& (858993459 : Int32)) + ((((v0 - (((v0).toUInt32 >>> (((1 : Int32)).toUInt32 &&& Int32.toUInt32 31)).toInt32 &&& (1431655765 : Int32)))).toUInt32 >>> (((2 : Int32)).toUInt32 &&& Int32.toUInt32 31)).toInt32 &&& (858993459 : Int32))) + (((((v0 - (((v0).toUInt32 >>> (((1 : Int32)).toUInt32 &&& Int32.toUInt32 31)).toInt32 &&& (1431655765 : Int32))) &&& (858993459 : Int32)) + ((((v0 - (((v0).toUInt32 >>> (((1 : Int32)).toUInt32 &&& Int32.toUInt32 31)).toInt32 &&& (1431655765 : Int32)))).toUInt32 >>> (((2 : Int32)).toUInt32 &&& Int32.toUInt32 31)).toInt32 &&& (858993459 : Int32)))).toUInt32 >>> (((4 : Int32)).toUInt32 &&& Int32.toUInt32 31)).toInt32) &&& (252645135 : Int32)) + (((((((v0 - (((v0).toUInt32 >>> (((1 : Int32)).toUInt32 &&& Int32.toUInt32 31)).toInt32 &&& (1431655765 : Int32))) &&& (858993459 : Int32)) + ((((v0 - (((v0).toUInt32 >>> (((1 : Int32)).toUInt32 &&& Int32.toUInt32 31)).toInt32 &&& (1431655765 : Int32)))).toUInt32 >>> (((2 : Int32)).toUInt32 &&& Int32.toUInt32 31)).toInt32 &&& (858993459 : Int32))) + (((((v0 - (((v0).toUInt32 >>> (((1 : Int32)).toUInt32 &&& Int32.toUInt32 31)).toInt32 &&& (1431655765 : Int32))) &&& (858993459 : Int32)) + ((((v0 - (((v0).toUInt32 >>> (((1 : Int32)).toUInt32 &&& Int32.toUInt32 31)).toInt32 &&& (1431655765 : Int32)))).toUInt32 >>> (((2 : Int32)).toUInt32 &&& Int32.toUInt32 31)).toInt32 &&& (858993459 : Int32)))).toUInt32 >>> (((4 : Int32)).toUInt32 &&& Int32.toUInt32 31)).toInt32) &&& (252645135 : Int32))).toUInt32 >>> (((8 : Int32)).toUInt32 &&& Int32.toUInt32 31)).toInt32)).toUInt32 >>> (((16 : Int32)).toUInt32 &&& Int32.toUInt32 31)).toInt32) &&& (63 : Int32))
set_option maxHeartbeats 4000000 in
set_option maxRecDepth 100000 in
theorem mI_bitCount (d : Nat) (hd : 1 ≤ d) {K : Option Value → x_W → Prop} {w : x_W} {v0 : Int32} {r : Int32} (h : fI_bitCount v0 = r) (hK : K (some (.int r)) w) : x_M yI_bitCount cI_bitCount 1 (some .int) d 0 0 [.int v0] w K := by
  refine x_M.of [some (.int v0)] (by decide) rfl (Nat.le_of_ble_eq_true rfl) ?_
  unfold fI_bitCount at h
  refine g_iload_n 1 (i := 0) dI_bitCount_0 rfl rfl rfl ?_
  refine g_iload_n 2 (i := 0) dI_bitCount_1 rfl rfl rfl ?_
  refine g_iconst 3 (1 : Int32) dI_bitCount_2 rfl (by decide) ?_
  refine g_iushr 4 dI_bitCount_3 rfl ?_
  refine g_ldcw 7 (1431655765 : Int32) dI_bitCount_4 rfl tw_1_184 ?_
  refine g_iand 8 dI_bitCount_7 rfl ?_
  refine g_isub 9 dI_bitCount_8 rfl ?_
  refine g_istore_n 10 (i := 0) [some (.int (v0 - (((v0).toUInt32 >>> (((1 : Int32)).toUInt32 &&& Int32.toUInt32 31)).toInt32 &&& (1431655765 : Int32))))] dI_bitCount_9 rfl rfl rfl (by decide) ?_
  refine g_iload_n 11 (i := 0) dI_bitCount_10 rfl rfl rfl ?_
  refine g_ldcw 14 (858993459 : Int32) dI_bitCount_11 rfl tw_1_185 ?_
  refine g_iand 15 dI_bitCount_14 rfl ?_
  refine g_iload_n 16 (i := 0) dI_bitCount_15 rfl rfl rfl ?_
  refine g_iconst 17 (2 : Int32) dI_bitCount_16 rfl (by decide) ?_
  refine g_iushr 18 dI_bitCount_17 rfl ?_
  refine g_ldcw 21 (858993459 : Int32) dI_bitCount_18 rfl tw_1_185 ?_
  refine g_iand 22 dI_bitCount_21 rfl ?_
  refine g_iadd 23 dI_bitCount_22 rfl ?_
  refine g_istore_n 24 (i := 0) [some (.int (((v0 - (((v0).toUInt32 >>> (((1 : Int32)).toUInt32 &&& Int32.toUInt32 31)).toInt32 &&& (1431655765 : Int32))) &&& (858993459 : Int32)) + ((((v0 - (((v0).toUInt32 >>> (((1 : Int32)).toUInt32 &&& Int32.toUInt32 31)).toInt32 &&& (1431655765 : Int32)))).toUInt32 >>> (((2 : Int32)).toUInt32 &&& Int32.toUInt32 31)).toInt32 &&& (858993459 : Int32))))] dI_bitCount_23 rfl rfl rfl (by decide) ?_
  refine g_iload_n 25 (i := 0) dI_bitCount_24 rfl rfl rfl ?_
  refine g_iload_n 26 (i := 0) dI_bitCount_25 rfl rfl rfl ?_
  refine g_iconst 27 (4 : Int32) dI_bitCount_26 rfl (by decide) ?_
  refine g_iushr 28 dI_bitCount_27 rfl ?_
  refine g_iadd 29 dI_bitCount_28 rfl ?_
  refine g_ldcw 32 (252645135 : Int32) dI_bitCount_29 rfl tw_1_186 ?_
  refine g_iand 33 dI_bitCount_32 rfl ?_
  refine g_istore_n 34 (i := 0) [some (.int (((((v0 - (((v0).toUInt32 >>> (((1 : Int32)).toUInt32 &&& Int32.toUInt32 31)).toInt32 &&& (1431655765 : Int32))) &&& (858993459 : Int32)) + ((((v0 - (((v0).toUInt32 >>> (((1 : Int32)).toUInt32 &&& Int32.toUInt32 31)).toInt32 &&& (1431655765 : Int32)))).toUInt32 >>> (((2 : Int32)).toUInt32 &&& Int32.toUInt32 31)).toInt32 &&& (858993459 : Int32))) + (((((v0 - (((v0).toUInt32 >>> (((1 : Int32)).toUInt32 &&& Int32.toUInt32 31)).toInt32 &&& (1431655765 : Int32))) &&& (858993459 : Int32)) + ((((v0 - (((v0).toUInt32 >>> (((1 : Int32)).toUInt32 &&& Int32.toUInt32 31)).toInt32 &&& (1431655765 : Int32)))).toUInt32 >>> (((2 : Int32)).toUInt32 &&& Int32.toUInt32 31)).toInt32 &&& (858993459 : Int32)))).toUInt32 >>> (((4 : Int32)).toUInt32 &&& Int32.toUInt32 31)).toInt32) &&& (252645135 : Int32)))] dI_bitCount_33 rfl rfl rfl (by decide) ?_
  refine g_iload_n 35 (i := 0) dI_bitCount_34 rfl rfl rfl ?_
  refine g_iload_n 36 (i := 0) dI_bitCount_35 rfl rfl rfl ?_
  refine g_bipush 38 (8 : Int32) dI_bitCount_36 rfl (by decide) ?_
  refine g_iushr 39 dI_bitCount_38 rfl ?_
  refine g_iadd 40 dI_bitCount_39 rfl ?_
  refine g_istore_n 41 (i := 0) [some (.int ((((((v0 - (((v0).toUInt32 >>> (((1 : Int32)).toUInt32 &&& Int32.toUInt32 31)).toInt32 &&& (1431655765 : Int32))) &&& (858993459 : Int32)) + ((((v0 - (((v0).toUInt32 >>> (((1 : Int32)).toUInt32 &&& Int32.toUInt32 31)).toInt32 &&& (1431655765 : Int32)))).toUInt32 >>> (((2 : Int32)).toUInt32 &&& Int32.toUInt32 31)).toInt32 &&& (858993459 : Int32))) + (((((v0 - (((v0).toUInt32 >>> (((1 : Int32)).toUInt32 &&& Int32.toUInt32 31)).toInt32 &&& (1431655765 : Int32))) &&& (858993459 : Int32)) + ((((v0 - (((v0).toUInt32 >>> (((1 : Int32)).toUInt32 &&& Int32.toUInt32 31)).toInt32 &&& (1431655765 : Int32)))).toUInt32 >>> (((2 : Int32)).toUInt32 &&& Int32.toUInt32 31)).toInt32 &&& (858993459 : Int32)))).toUInt32 >>> (((4 : Int32)).toUInt32 &&& Int32.toUInt32 31)).toInt32) &&& (252645135 : Int32)) + (((((((v0 - (((v0).toUInt32 >>> (((1 : Int32)).toUInt32 &&& Int32.toUInt32 31)).toInt32 &&& (1431655765 : Int32))) &&& (858993459 : Int32)) + ((((v0 - (((v0).toUInt32 >>> (((1 : Int32)).toUInt32 &&& Int32.toUInt32 31)).toInt32 &&& (1431655765 : Int32)))).toUInt32 >>> (((2 : Int32)).toUInt32 &&& Int32.toUInt32 31)).toInt32 &&& (858993459 : Int32))) + (((((v0 - (((v0).toUInt32 >>> (((1 : Int32)).toUInt32 &&& Int32.toUInt32 31)).toInt32 &&& (1431655765 : Int32))) &&& (858993459 : Int32)) + ((((v0 - (((v0).toUInt32 >>> (((1 : Int32)).toUInt32 &&& Int32.toUInt32 31)).toInt32 &&& (1431655765 : Int32)))).toUInt32 >>> (((2 : Int32)).toUInt32 &&& Int32.toUInt32 31)).toInt32 &&& (858993459 : Int32)))).toUInt32 >>> (((4 : Int32)).toUInt32 &&& Int32.toUInt32 31)).toInt32) &&& (252645135 : Int32))).toUInt32 >>> (((8 : Int32)).toUInt32 &&& Int32.toUInt32 31)).toInt32))] dI_bitCount_40 rfl rfl rfl (by decide) ?_
  refine g_iload_n 42 (i := 0) dI_bitCount_41 rfl rfl rfl ?_
  refine g_iload_n 43 (i := 0) dI_bitCount_42 rfl rfl rfl ?_
  refine g_bipush 45 (16 : Int32) dI_bitCount_43 rfl (by decide) ?_
  refine g_iushr 46 dI_bitCount_45 rfl ?_
  refine g_iadd 47 dI_bitCount_46 rfl ?_
  refine g_istore_n 48 (i := 0) [some (.int (((((((v0 - (((v0).toUInt32 >>> (((1 : Int32)).toUInt32 &&& Int32.toUInt32 31)).toInt32 &&& (1431655765 : Int32))) &&& (858993459 : Int32)) + ((((v0 - (((v0).toUInt32 >>> (((1 : Int32)).toUInt32 &&& Int32.toUInt32 31)).toInt32 &&& (1431655765 : Int32)))).toUInt32 >>> (((2 : Int32)).toUInt32 &&& Int32.toUInt32 31)).toInt32 &&& (858993459 : Int32))) + (((((v0 - (((v0).toUInt32 >>> (((1 : Int32)).toUInt32 &&& Int32.toUInt32 31)).toInt32 &&& (1431655765 : Int32))) &&& (858993459 : Int32)) + ((((v0 - (((v0).toUInt32 >>> (((1 : Int32)).toUInt32 &&& Int32.toUInt32 31)).toInt32 &&& (1431655765 : Int32)))).toUInt32 >>> (((2 : Int32)).toUInt32 &&& Int32.toUInt32 31)).toInt32 &&& (858993459 : Int32)))).toUInt32 >>> (((4 : Int32)).toUInt32 &&& Int32.toUInt32 31)).toInt32) &&& (252645135 : Int32)) + (((((((v0 - (((v0).toUInt32 >>> (((1 : Int32)).toUInt32 &&& Int32.toUInt32 31)).toInt32 &&& (1431655765 : Int32))) &&& (858993459 : Int32)) + ((((v0 - (((v0).toUInt32 >>> (((1 : Int32)).toUInt32 &&& Int32.toUInt32 31)).toInt32 &&& (1431655765 : Int32)))).toUInt32 >>> (((2 : Int32)).toUInt32 &&& Int32.toUInt32 31)).toInt32 &&& (858993459 : Int32))) + (((((v0 - (((v0).toUInt32 >>> (((1 : Int32)).toUInt32 &&& Int32.toUInt32 31)).toInt32 &&& (1431655765 : Int32))) &&& (858993459 : Int32)) + ((((v0 - (((v0).toUInt32 >>> (((1 : Int32)).toUInt32 &&& Int32.toUInt32 31)).toInt32 &&& (1431655765 : Int32)))).toUInt32 >>> (((2 : Int32)).toUInt32 &&& Int32.toUInt32 31)).toInt32 &&& (858993459 : Int32)))).toUInt32 >>> (((4 : Int32)).toUInt32 &&& Int32.toUInt32 31)).toInt32) &&& (252645135 : Int32))).toUInt32 >>> (((8 : Int32)).toUInt32 &&& Int32.toUInt32 31)).toInt32) + ((((((((v0 - (((v0).toUInt32 >>> (((1 : Int32)).toUInt32 &&& Int32.toUInt32 31)).toInt32 &&& (1431655765 : Int32))) &&& (858993459 : Int32)) + ((((v0 - (((v0).toUInt32 >>> (((1 : Int32)).toUInt32 &&& Int32.toUInt32 31)).toInt32 &&& (1431655765 : Int32)))).toUInt32 >>> (((2 : Int32)).toUInt32 &&& Int32.toUInt32 31)).toInt32 &&& (858993459 : Int32))) + (((((v0 - (((v0).toUInt32 >>> (((1 : Int32)).toUInt32 &&& Int32.toUInt32 31)).toInt32 &&& (1431655765 : Int32))) &&& (858993459 : Int32)) + ((((v0 - (((v0).toUInt32 >>> (((1 : Int32)).toUInt32 &&& Int32.toUInt32 31)).toInt32 &&& (1431655765 : Int32)))).toUInt32 >>> (((2 : Int32)).toUInt32 &&& Int32.toUInt32 31)).toInt32 &&& (858993459 : Int32)))).toUInt32 >>> (((4 : Int32)).toUInt32 &&& Int32.toUInt32 31)).toInt32) &&& (252645135 : Int32)) + (((((((v0 - (((v0).toUInt32 >>> (((1 : Int32)).toUInt32 &&& Int32.toUInt32 31)).toInt32 &&& (1431655765 : Int32))) &&& (858993459 : Int32)) + ((((v0 - (((v0).toUInt32 >>> (((1 : Int32)).toUInt32 &&& Int32.toUInt32 31)).toInt32 &&& (1431655765 : Int32)))).toUInt32 >>> (((2 : Int32)).toUInt32 &&& Int32.toUInt32 31)).toInt32 &&& (858993459 : Int32))) + (((((v0 - (((v0).toUInt32 >>> (((1 : Int32)).toUInt32 &&& Int32.toUInt32 31)).toInt32 &&& (1431655765 : Int32))) &&& (858993459 : Int32)) + ((((v0 - (((v0).toUInt32 >>> (((1 : Int32)).toUInt32 &&& Int32.toUInt32 31)).toInt32 &&& (1431655765 : Int32)))).toUInt32 >>> (((2 : Int32)).toUInt32 &&& Int32.toUInt32 31)).toInt32 &&& (858993459 : Int32)))).toUInt32 >>> (((4 : Int32)).toUInt32 &&& Int32.toUInt32 31)).toInt32) &&& (252645135 : Int32))).toUInt32 >>> (((8 : Int32)).toUInt32 &&& Int32.toUInt32 31)).toInt32)).toUInt32 >>> (((16 : Int32)).toUInt32 &&& Int32.toUInt32 31)).toInt32))] dI_bitCount_47 rfl rfl rfl (by decide) ?_
  refine g_iload_n 49 (i := 0) dI_bitCount_48 rfl rfl rfl ?_
  refine g_bipush 51 (63 : Int32) dI_bitCount_49 rfl (by decide) ?_
  refine g_iand 52 dI_bitCount_51 rfl ?_
  subst h
  exact g_iret rfl dI_bitCount_52 hK
/-! ActSurgery.isFewer(II)Z: level T -/
theorem dA_isFewer_0 : decode cA_isFewer 0 = .ok (.iload_n 1, 1) := by decide +kernel
theorem dA_isFewer_1 : decode cA_isFewer 1 = .ok (.iconst (-1), 1) := by decide +kernel
theorem dA_isFewer_2 : decode cA_isFewer 2 = .ok (.if_icmp .eq 14, 3) := by decide +kernel
theorem dA_isFewer_5 : decode cA_isFewer 5 = .ok (.iload_n 0, 1) := by decide +kernel
theorem dA_isFewer_6 : decode cA_isFewer 6 = .ok (.invokestatic 215, 3) := by decide +kernel
theorem dA_isFewer_9 : decode cA_isFewer 9 = .ok (.iload_n 1, 1) := by decide +kernel
theorem dA_isFewer_10 : decode cA_isFewer 10 = .ok (.invokestatic 215, 3) := by decide +kernel
theorem dA_isFewer_13 : decode cA_isFewer 13 = .ok (.if_icmp .ge 7, 3) := by decide +kernel
theorem dA_isFewer_16 : decode cA_isFewer 16 = .ok (.iconst 1, 1) := by decide +kernel
theorem dA_isFewer_17 : decode cA_isFewer 17 = .ok (.goto 4, 3) := by decide +kernel
theorem dA_isFewer_20 : decode cA_isFewer 20 = .ok (.iconst 0, 1) := by decide +kernel
theorem dA_isFewer_21 : decode cA_isFewer 21 = .ok (.ireturn, 1) := by decide +kernel
theorem tw_1_182 : (Jvm.Cond.static ({ cls := "java/lang/Integer", name := "bitCount", desc := "(I)I" } : Jvm.MethodName)) ∈ x_GT := x_t1 182 rfl rfl
theorem tw_1_183 : (Jvm.Cond.code ({ cls := "java/lang/Integer", name := "bitCount", desc := "(I)I" } : Jvm.MethodName) prog_8_method_49_code (1 : Nat) (Option.some Jvm.ClassFile.FieldType.int)) ∈ x_GT := x_t1 183 rfl rfl
theorem tw_1_7 : (Jvm.Cond.initialized "java/lang/Integer") ∈ x_GT := x_t1 7 rfl rfl
theorem tw_2_18 : (Jvm.Cond.methodLink "ActSurgery" (215 : Nat) ({ cls := "java/lang/Integer", name := "bitCount", desc := "(I)I" } : Jvm.MethodName)) ∈ x_GT := x_t2 18 rfl rfl
theorem kA_215 : x_kS "ActSurgery" 215 yI_bitCount cI_bitCount 1 (some .int) 1 := ⟨tw_1_182, tw_1_183, tw_1_7, tw_2_18, (by decide +kernel)⟩
def fA_isFewer  (v0 : Int32) (v1 : Int32) : Int32 :=
  if v1 = (-1 : Int32) then
    (1 : Int32)
  else
    if (fI_bitCount v1) ≤ (fI_bitCount v0) then
      (0 : Int32)
    else
      (1 : Int32)
set_option maxHeartbeats 4000000 in
set_option maxRecDepth 100000 in
theorem mA_isFewer (d : Nat) (hd : 2 ≤ d) {K : Option Value → x_W → Prop} {w : x_W} {v0 : Int32} {v1 : Int32} {r : Int32} (h : fA_isFewer v0 v1 = r) (hK : K (some (.int r)) w) : x_M yA_isFewer cA_isFewer 2 (some .boolean) d 0 0 [.int v0, .int v1] w K := by
  refine x_M.of [some (.int v0), some (.int v1)] (by decide) rfl (Nat.le_of_ble_eq_true rfl) ?_
  unfold fA_isFewer at h
  refine g_iload_n 1 (i := 1) dA_isFewer_0 rfl rfl rfl ?_
  refine g_iconst 2 (-1 : Int32) dA_isFewer_1 rfl (by decide) ?_
  by_cases c1 : v1 = (-1 : Int32)
  · rw [if_pos c1] at h
    refine g_icmp_eq_t 16 dA_isFewer_2 (by decide) c1 ?_
    refine g_iconst 17 (1 : Int32) dA_isFewer_16 rfl (by decide) ?_
    refine g_goto 21 dA_isFewer_17 (by decide) ?_
    subst h
    exact g_zret rfl (by decide) dA_isFewer_21 hK
  · rw [if_neg c1] at h
    refine g_icmp_eq_f 5 16 dA_isFewer_2 (by decide) rfl c1 ?_
    refine g_iload_n 6 (i := 0) dA_isFewer_5 rfl rfl rfl ?_
    refine g_cS 9 (some (.int (fI_bitCount v0))) w [.int v0] [] dA_isFewer_6 rfl (fun _ hK2 => mI_bitCount (d - 1) (by omega) rfl hK2) kA_215 (x_rm (Nat.le_trans (by decide) hd) (by decide)) ⟨Nat.zero_le _, Nat.zero_le _⟩ (Nat.le_of_ble_eq_true rfl) rfl ?_
    refine g_iload_n 10 (i := 1) dA_isFewer_9 rfl rfl rfl ?_
    refine g_cS 13 (some (.int (fI_bitCount v1))) w [.int v1] [.int (fI_bitCount v0)] dA_isFewer_10 rfl (fun _ hK2 => mI_bitCount (d - 1) (by omega) rfl hK2) kA_215 (x_rm (Nat.le_trans (by decide) hd) (by decide)) ⟨Nat.zero_le _, Nat.zero_le _⟩ (Nat.le_of_ble_eq_true rfl) rfl ?_
    by_cases c2 : (fI_bitCount v1) ≤ (fI_bitCount v0)
    · rw [if_pos c2] at h
      refine g_icmp_ge_t 20 dA_isFewer_13 (by decide) c2 ?_
      refine g_iconst 21 (0 : Int32) dA_isFewer_20 rfl (by decide) ?_
      subst h
      exact g_zret rfl (by decide) dA_isFewer_21 hK
    · rw [if_neg c2] at h
      refine g_icmp_ge_f 16 20 dA_isFewer_13 (by decide) rfl c2 ?_
      refine g_iconst 17 (1 : Int32) dA_isFewer_16 rfl (by decide) ?_
      refine g_goto 21 dA_isFewer_17 (by decide) ?_
      subst h
      exact g_zret rfl (by decide) dA_isFewer_21 hK
/-! ActSurgery$Arrows.isBeside(II)Z: level P -/
theorem dR_isBeside_0 : decode cR_isBeside 0 = .ok (.aload_n 0, 1) := by decide +kernel
theorem dR_isBeside_1 : decode cR_isBeside 1 = .ok (.getfield 9, 3) := by decide +kernel
theorem dR_isBeside_4 : decode cR_isBeside 4 = .ok (.iload_n 1, 1) := by decide +kernel
theorem dR_isBeside_5 : decode cR_isBeside 5 = .ok (.iaload, 1) := by decide +kernel
theorem dR_isBeside_6 : decode cR_isBeside 6 = .ok (.iload_n 2, 1) := by decide +kernel
theorem dR_isBeside_7 : decode cR_isBeside 7 = .ok (.invokestatic 25, 3) := by decide +kernel
theorem dR_isBeside_10 : decode cR_isBeside 10 = .ok (.ifCond .ne 16, 3) := by decide +kernel
theorem dR_isBeside_13 : decode cR_isBeside 13 = .ok (.aload_n 0, 1) := by decide +kernel
theorem dR_isBeside_14 : decode cR_isBeside 14 = .ok (.getfield 9, 3) := by decide +kernel
theorem dR_isBeside_17 : decode cR_isBeside 17 = .ok (.iload_n 2, 1) := by decide +kernel
theorem dR_isBeside_18 : decode cR_isBeside 18 = .ok (.iaload, 1) := by decide +kernel
theorem dR_isBeside_19 : decode cR_isBeside 19 = .ok (.iload_n 1, 1) := by decide +kernel
theorem dR_isBeside_20 : decode cR_isBeside 20 = .ok (.invokestatic 25, 3) := by decide +kernel
theorem dR_isBeside_23 : decode cR_isBeside 23 = .ok (.ifCond .eq 7, 3) := by decide +kernel
theorem dR_isBeside_26 : decode cR_isBeside 26 = .ok (.iconst 1, 1) := by decide +kernel
theorem dR_isBeside_27 : decode cR_isBeside 27 = .ok (.goto 4, 3) := by decide +kernel
theorem dR_isBeside_30 : decode cR_isBeside 30 = .ok (.iconst 0, 1) := by decide +kernel
theorem dR_isBeside_31 : decode cR_isBeside 31 = .ok (.ireturn, 1) := by decide +kernel
theorem kR_25 : x_kSN "ActSurgery$Arrows" 25 yA_has cA_has 2 (some .boolean) 2 "ActSurgery" := ⟨tw_1_168, tw_1_169, tw_1_1, (List.mem_of_getElem? (i := 4) rfl), (by decide +kernel)⟩
def fR_isBeside (w : x_W) (v0 : Nat) (v1 : Int32) (v2 : Int32) : Option Int32 :=
  (x_fr w v0 1 1).bind fun t1 =>
  (x_ai w t1 v1).bind fun t2 =>
  if (fA_has t2 v2) = (0 : Int32) then
    (x_ai w t1 v2).bind fun t4 =>
    if (fA_has t4 v1) = (0 : Int32) then
      some (0 : Int32)
    else
      some (1 : Int32)
  else
    some (1 : Int32)
set_option maxHeartbeats 4000000 in
set_option maxRecDepth 100000 in
theorem mR_isBeside (d : Nat) (hd : 2 ≤ d) {K : Option Value → x_W → Prop} {w : x_W} {v0 : Nat} {v1 : Int32} {v2 : Int32} {r : Int32} (h : fR_isBeside w v0 v1 v2 = some r) (hK : K (some (.int r)) w) : x_M yR_isBeside cR_isBeside 3 (some .boolean) d 0 0 [.ref v0, .int v1, .int v2] w K := by
  refine x_M.of [some (.ref v0), some (.int v1), some (.int v2)] (by decide) rfl (Nat.le_of_ble_eq_true rfl) ?_
  unfold fR_isBeside at h
  refine g_aload_n 1 (i := 0) dR_isBeside_0 rfl rfl rfl ?_
  obtain ⟨t1, e1, h⟩ := x_bind h
  refine g_getfR 4 1 1 dR_isBeside_1 rfl x_in1 tw_1_34 rfl (by decide) e1 ?_
  refine g_iload_n 5 (i := 1) dR_isBeside_4 rfl rfl rfl ?_
  obtain ⟨t2, e2, h⟩ := x_bind h
  refine g_iald 6 dR_isBeside_5 rfl e2 ?_
  refine g_iload_n 7 (i := 2) dR_isBeside_6 rfl rfl rfl ?_
  refine g_cSN 10 (some (.int (fA_has t2 v2))) w [.int t2, .int v2] [] dR_isBeside_7 rfl (fun _ hK2 => mA_has (d - 1) (by omega) rfl hK2) kR_25 (x_rm (Nat.le_trans (by decide) hd) (by decide)) ⟨Nat.zero_le _, Nat.zero_le _⟩ (Nat.le_of_ble_eq_true rfl) rfl ?_
  by_cases c3 : (fA_has t2 v2) = (0 : Int32)
  · rw [if_pos c3] at h
    refine g_if_ne_f 13 26 dR_isBeside_10 (by decide) rfl c3 ?_
    refine g_aload_n 14 (i := 0) dR_isBeside_13 rfl rfl rfl ?_
    refine g_getfR 17 1 1 dR_isBeside_14 rfl x_in1 tw_1_34 rfl (by decide) e1 ?_
    refine g_iload_n 18 (i := 2) dR_isBeside_17 rfl rfl rfl ?_
    obtain ⟨t4, e4, h⟩ := x_bind h
    refine g_iald 19 dR_isBeside_18 rfl e4 ?_
    refine g_iload_n 20 (i := 1) dR_isBeside_19 rfl rfl rfl ?_
    refine g_cSN 23 (some (.int (fA_has t4 v1))) w [.int t4, .int v1] [] dR_isBeside_20 rfl (fun _ hK2 => mA_has (d - 1) (by omega) rfl hK2) kR_25 (x_rm (Nat.le_trans (by decide) hd) (by decide)) ⟨Nat.zero_le _, Nat.zero_le _⟩ (Nat.le_of_ble_eq_true rfl) rfl ?_
    by_cases c5 : (fA_has t4 v1) = (0 : Int32)
    · rw [if_pos c5] at h
      refine g_if_eq_t 30 dR_isBeside_23 (by decide) c5 ?_
      refine g_iconst 31 (0 : Int32) dR_isBeside_30 rfl (by decide) ?_
      obtain rfl := Option.some.inj h
      exact g_zret rfl (by decide) dR_isBeside_31 hK
    · rw [if_neg c5] at h
      refine g_if_eq_f 26 30 dR_isBeside_23 (by decide) rfl c5 ?_
      refine g_iconst 27 (1 : Int32) dR_isBeside_26 rfl (by decide) ?_
      refine g_goto 31 dR_isBeside_27 (by decide) ?_
      obtain rfl := Option.some.inj h
      exact g_zret rfl (by decide) dR_isBeside_31 hK
  · rw [if_neg c3] at h
    refine g_if_ne_t 26 dR_isBeside_10 (by decide) c3 ?_
    refine g_iconst 27 (1 : Int32) dR_isBeside_26 rfl (by decide) ?_
    refine g_goto 31 dR_isBeside_27 (by decide) ?_
    obtain rfl := Option.some.inj h
    exact g_zret rfl (by decide) dR_isBeside_31 hK
