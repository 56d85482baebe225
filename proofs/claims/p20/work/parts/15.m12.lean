/-! ActSurgeryModel.partedPairs()I: level X -/
theorem dM_partedPairs_0 : decode cM_partedPairs 0 = .ok (.iconst 0, 1) := by decide +kernel
theorem dM_partedPairs_1 : decode cM_partedPairs 1 = .ok (.istore_n 1, 1) := by decide +kernel
theorem dM_partedPairs_2 : decode cM_partedPairs 2 = .ok (.iconst 0, 1) := by decide +kernel
theorem dM_partedPairs_3 : decode cM_partedPairs 3 = .ok (.istore_n 2, 1) := by decide +kernel
theorem dM_partedPairs_4 : decode cM_partedPairs 4 = .ok (.iload_n 2, 1) := by decide +kernel
theorem dM_partedPairs_5 : decode cM_partedPairs 5 = .ok (.aload_n 0, 1) := by decide +kernel
theorem dM_partedPairs_6 : decode cM_partedPairs 6 = .ok (.invokevirtual 44, 3) := by decide +kernel
theorem dM_partedPairs_9 : decode cM_partedPairs 9 = .ok (.if_icmp .ge 40, 3) := by decide +kernel
theorem dM_partedPairs_12 : decode cM_partedPairs 12 = .ok (.iconst 0, 1) := by decide +kernel
theorem dM_partedPairs_13 : decode cM_partedPairs 13 = .ok (.istore_n 3, 1) := by decide +kernel
theorem dM_partedPairs_14 : decode cM_partedPairs 14 = .ok (.iload_n 3, 1) := by decide +kernel
theorem dM_partedPairs_15 : decode cM_partedPairs 15 = .ok (.iload_n 2, 1) := by decide +kernel
theorem dM_partedPairs_16 : decode cM_partedPairs 16 = .ok (.if_icmp .ge 27, 3) := by decide +kernel
theorem dM_partedPairs_19 : decode cM_partedPairs 19 = .ok (.aload_n 0, 1) := by decide +kernel
theorem dM_partedPairs_20 : decode cM_partedPairs 20 = .ok (.iload_n 3, 1) := by decide +kernel
theorem dM_partedPairs_21 : decode cM_partedPairs 21 = .ok (.iload_n 2, 1) := by decide +kernel
theorem dM_partedPairs_22 : decode cM_partedPairs 22 = .ok (.invokevirtual 100, 3) := by decide +kernel
theorem dM_partedPairs_25 : decode cM_partedPairs 25 = .ok (.iconst (-1), 1) := by decide +kernel
theorem dM_partedPairs_26 : decode cM_partedPairs 26 = .ok (.if_icmp .eq 9, 3) := by decide +kernel
theorem dM_partedPairs_29 : decode cM_partedPairs 29 = .ok (.iload_n 1, 1) := by decide +kernel
theorem dM_partedPairs_30 : decode cM_partedPairs 30 = .ok (.iconst 1, 1) := by decide +kernel
theorem dM_partedPairs_31 : decode cM_partedPairs 31 = .ok (.iadd, 1) := by decide +kernel
theorem dM_partedPairs_32 : decode cM_partedPairs 32 = .ok (.goto 4, 3) := by decide +kernel
theorem dM_partedPairs_35 : decode cM_partedPairs 35 = .ok (.iload_n 1, 1) := by decide +kernel
theorem dM_partedPairs_36 : decode cM_partedPairs 36 = .ok (.istore_n 1, 1) := by decide +kernel
theorem dM_partedPairs_37 : decode cM_partedPairs 37 = .ok (.iinc 3 1, 3) := by decide +kernel
theorem dM_partedPairs_40 : decode cM_partedPairs 40 = .ok (.goto (-26), 3) := by decide +kernel
theorem dM_partedPairs_43 : decode cM_partedPairs 43 = .ok (.iinc 2 1, 3) := by decide +kernel
theorem dM_partedPairs_46 : decode cM_partedPairs 46 = .ok (.goto (-42), 3) := by decide +kernel
theorem dM_partedPairs_49 : decode cM_partedPairs 49 = .ok (.iload_n 1, 1) := by decide +kernel
theorem dM_partedPairs_50 : decode cM_partedPairs 50 = .ok (.ireturn, 1) := by decide +kernel
def fM_partedPairs_14 (k4 : x_W → Nat → Int32 → Int32 → Option (Int32 × x_W)) : Nat → x_W → Nat → Int32 → Int32 → Int32 → Option (Int32 × x_W)
  | 0, _, _, _, _, _ => none
  | n + 1, w, v0, v1, v2, v3 =>
    if v2 ≤ v3 then
      k4 w v0 v1 (v2 + (1 : Int32))
    else
      (x_ob w v0 5).bind fun _ =>
      (fM_partingOf w v0 v3 v2).bind fun q3 =>
      if q3.1 = (-1 : Int32) then
        fM_partedPairs_14 k4 n q3.2 v0 v1 v2 (v3 + (1 : Int32))
      else
        fM_partedPairs_14 k4 n q3.2 v0 (v1 + (1 : Int32)) v2 (v3 + (1 : Int32))
def fM_partedPairs_4  : Nat → x_W → Nat → Int32 → Int32 → Option (Int32 × x_W)
  | 0, _, _, _, _ => none
  | n + 1, w, v0, v1, v2 =>
    (x_ob w v0 5).bind fun _ =>
    (fM_n w v0).bind fun t2 =>
    if t2 ≤ v2 then
      some (v1, w)
    else
      fM_partedPairs_14 (fM_partedPairs_4 n) x_F w v0 v1 v2 (0 : Int32)
def fM_partedPairs  (w : x_W) (v0 : Nat) : Option (Int32 × x_W) :=
  fM_partedPairs_4 x_F w v0 (0 : Int32) (0 : Int32)
set_option maxHeartbeats 4000000 in
set_option maxRecDepth 100000 in
theorem lM_partedPairs_14 (d : Nat) (hd : 9 ≤ d) {K : Option Value → x_W → Prop} {r : (Int32 × x_W)} (hK : K (some (.int r.1)) r.2) {k4 : x_W → Nat → Int32 → Int32 → Option (Int32 × x_W)} (hk4 : ∀ (w : x_W) (v0 : Nat) (v1 : Int32) (v2 : Int32), k4 w v0 v1 v2 = some r → x_G none yM_partedPairs cM_partedPairs 4 (some .int) (x_room d 0 0) (x_QM K 0 0) 4 [some (.ref v0), some (.int v1), some (.int v2), none] [] w 0 0) : ∀ (n : Nat) (w : x_W) (v0 : Nat) (v1 : Int32) (v2 : Int32) (v3 : Int32), fM_partedPairs_14 k4 n w v0 v1 v2 v3 = some r → x_G none yM_partedPairs cM_partedPairs 4 (some .int) (x_room d 0 0) (x_QM K 0 0) 14 [some (.ref v0), some (.int v1), some (.int v2), some (.int v3)] [] w 0 0 := by
  intro n
  induction n with
  | zero => intro w v0 v1 v2 v3 h; rw [fM_partedPairs_14] at h; cases h
  | succ n ih =>
    intro w v0 v1 v2 v3 h
    rw [fM_partedPairs_14] at h
    refine g_iload_n 15 (i := 3) dM_partedPairs_14 rfl rfl rfl ?_
    refine g_iload_n 16 (i := 2) dM_partedPairs_15 rfl rfl rfl ?_
    by_cases c1 : v2 ≤ v3
    · rw [if_pos c1] at h
      refine g_icmp_ge_t 43 dM_partedPairs_16 (by decide) c1 ?_
      refine g_iinc 46 [some (.ref v0), some (.int v1), some (.int (v2 + (1 : Int32))), some (.int v3)] dM_partedPairs_43 rfl rfl (x_inc (1 : Int32) (by decide)) rfl (by decide) ?_
      refine g_goto 4 dM_partedPairs_46 (by decide) ?_
      refine g_less [some (.ref v0), some (.int v1), some (.int (v2 + (1 : Int32))), none] ⟨rfl, rfl, rfl, trivial⟩ ?_
      exact hk4 _ _ _ _ h
    · rw [if_neg c1] at h
      refine g_icmp_ge_f 19 43 dM_partedPairs_16 (by decide) rfl c1 ?_
      refine g_aload_n 20 (i := 0) dM_partedPairs_19 rfl rfl rfl ?_
      refine g_iload_n 21 (i := 3) dM_partedPairs_20 rfl rfl rfl ?_
      refine g_iload_n 22 (i := 2) dM_partedPairs_21 rfl rfl rfl ?_
      obtain ⟨_, e2, h⟩ := x_bind h
      obtain ⟨q3, e3, h⟩ := x_bind h
      refine g_cV 25 (some (.int q3.1)) q3.2 [.int v3, .int v2] [] dM_partedPairs_22 rfl (fun _ hK2 => mM_partingOf (d - 1) (by omega) e3 hK2) (x_ob_some e2) kM_100 (x_rm (Nat.le_trans (by decide) hd) (by decide)) ⟨Nat.zero_le _, Nat.zero_le _⟩ (Nat.le_of_ble_eq_true rfl) rfl ?_
      refine g_iconst 26 (-1 : Int32) dM_partedPairs_25 rfl (by decide) ?_
      by_cases c4 : q3.1 = (-1 : Int32)
      · rw [if_pos c4] at h
        refine g_icmp_eq_t 35 dM_partedPairs_26 (by decide) c4 ?_
        refine g_iload_n 36 (i := 1) dM_partedPairs_35 rfl rfl rfl ?_
        refine g_istore_n 37 (i := 1) [some (.ref v0), some (.int v1), some (.int v2), some (.int v3)] dM_partedPairs_36 rfl rfl rfl (by decide) ?_
        refine g_iinc 40 [some (.ref v0), some (.int v1), some (.int v2), some (.int (v3 + (1 : Int32)))] dM_partedPairs_37 rfl rfl (x_inc (1 : Int32) (by decide)) rfl (by decide) ?_
        refine g_goto 14 dM_partedPairs_40 (by decide) ?_
        exact ih _ _ _ _ _ h
      · rw [if_neg c4] at h
        refine g_icmp_eq_f 29 35 dM_partedPairs_26 (by decide) rfl c4 ?_
        refine g_iload_n 30 (i := 1) dM_partedPairs_29 rfl rfl rfl ?_
        refine g_iconst 31 (1 : Int32) dM_partedPairs_30 rfl (by decide) ?_
        refine g_iadd 32 dM_partedPairs_31 rfl ?_
        refine g_goto 36 dM_partedPairs_32 (by decide) ?_
        refine g_istore_n 37 (i := 1) [some (.ref v0), some (.int (v1 + (1 : Int32))), some (.int v2), some (.int v3)] dM_partedPairs_36 rfl rfl rfl (by decide) ?_
        refine g_iinc 40 [some (.ref v0), some (.int (v1 + (1 : Int32))), some (.int v2), some (.int (v3 + (1 : Int32)))] dM_partedPairs_37 rfl rfl (x_inc (1 : Int32) (by decide)) rfl (by decide) ?_
        refine g_goto 14 dM_partedPairs_40 (by decide) ?_
        exact ih _ _ _ _ _ h
set_option maxHeartbeats 4000000 in
set_option maxRecDepth 100000 in
theorem lM_partedPairs_4 (d : Nat) (hd : 9 ≤ d) {K : Option Value → x_W → Prop} {r : (Int32 × x_W)} (hK : K (some (.int r.1)) r.2) : ∀ (n : Nat) (w : x_W) (v0 : Nat) (v1 : Int32) (v2 : Int32), fM_partedPairs_4 n w v0 v1 v2 = some r → x_G none yM_partedPairs cM_partedPairs 4 (some .int) (x_room d 0 0) (x_QM K 0 0) 4 [some (.ref v0), some (.int v1), some (.int v2), none] [] w 0 0 := by
  intro n
  induction n with
  | zero => intro w v0 v1 v2 h; rw [fM_partedPairs_4] at h; cases h
  | succ n ih =>
    intro w v0 v1 v2 h
    rw [fM_partedPairs_4] at h
    refine g_iload_n 5 (i := 2) dM_partedPairs_4 rfl rfl rfl ?_
    refine g_aload_n 6 (i := 0) dM_partedPairs_5 rfl rfl rfl ?_
    obtain ⟨_, e1, h⟩ := x_bind h
    obtain ⟨t2, e2, h⟩ := x_bind h
    refine g_cV 9 (some (.int t2)) w [] [.int v2] dM_partedPairs_6 rfl (fun _ hK2 => mM_n (d - 1) (by omega) e2 hK2) (x_ob_some e1) kM_44 (x_rm (Nat.le_trans (by decide) hd) (by decide)) ⟨Nat.zero_le _, Nat.zero_le _⟩ (Nat.le_of_ble_eq_true rfl) rfl ?_
    by_cases c3 : t2 ≤ v2
    · rw [if_pos c3] at h
      refine g_icmp_ge_t 49 dM_partedPairs_9 (by decide) c3 ?_
      refine g_iload_n 50 (i := 1) dM_partedPairs_49 rfl rfl rfl ?_
      obtain rfl := Option.some.inj h
      exact g_iret rfl dM_partedPairs_50 hK
    · rw [if_neg c3] at h
      refine g_icmp_ge_f 12 49 dM_partedPairs_9 (by decide) rfl c3 ?_
      refine g_iconst 13 (0 : Int32) dM_partedPairs_12 rfl (by decide) ?_
      refine g_istore_n 14 (i := 3) [some (.ref v0), some (.int v1), some (.int v2), some (.int (0 : Int32))] dM_partedPairs_13 rfl rfl rfl (by decide) ?_
      exact lM_partedPairs_14 d hd hK (fun _ _ _ _ hz => ih _ _ _ _ hz) x_F _ _ _ _ _ h
set_option maxHeartbeats 4000000 in
set_option maxRecDepth 100000 in
theorem mM_partedPairs (d : Nat) (hd : 9 ≤ d) {K : Option Value → x_W → Prop} {w : x_W} {v0 : Nat} {r : (Int32 × x_W)} (h : fM_partedPairs w v0 = some r) (hK : K (some (.int r.1)) r.2) : x_M yM_partedPairs cM_partedPairs 4 (some .int) d 0 0 [.ref v0] w K := by
  refine x_M.of [some (.ref v0), none, none, none] (by decide) rfl (Nat.le_of_ble_eq_true rfl) ?_
  unfold fM_partedPairs at h
  refine g_iconst 1 (0 : Int32) dM_partedPairs_0 rfl (by decide) ?_
  refine g_istore_n 2 (i := 1) [some (.ref v0), some (.int (0 : Int32)), none, none] dM_partedPairs_1 rfl rfl rfl (by decide) ?_
  refine g_iconst 3 (0 : Int32) dM_partedPairs_2 rfl (by decide) ?_
  refine g_istore_n 4 (i := 2) [some (.ref v0), some (.int (0 : Int32)), some (.int (0 : Int32)), none] dM_partedPairs_3 rfl rfl rfl (by decide) ?_
  exact lM_partedPairs_4 d hd hK x_F _ _ _ _ h
/-! ActSurgeryModel.count(I)I: level X -/
theorem dM_count_0 : decode cM_count 0 = .ok (.iload_n 1, 1) := by decide +kernel
theorem dM_count_1 : decode cM_count 1 = .ok (.iconst 0, 1) := by decide +kernel
theorem dM_count_2 : decode cM_count 2 = .ok (.bipush 6, 2) := by decide +kernel
theorem dM_count_4 : decode cM_count 4 = .ok (.invokestatic 48, 3) := by decide +kernel
theorem dM_count_7 : decode cM_count 7 = .ok (.ifCond .ne 6, 3) := by decide +kernel
theorem dM_count_10 : decode cM_count 10 = .ok (.bipush (-2), 2) := by decide +kernel
theorem dM_count_12 : decode cM_count 12 = .ok (.ireturn, 1) := by decide +kernel
theorem dM_count_13 : decode cM_count 13 = .ok (.aload_n 0, 1) := by decide +kernel
theorem dM_count_14 : decode cM_count 14 = .ok (.iconst 0, 1) := by decide +kernel
theorem dM_count_15 : decode cM_count 15 = .ok (.putfield 66, 3) := by decide +kernel
theorem dM_count_18 : decode cM_count 18 = .ok (.iconst 0, 1) := by decide +kernel
theorem dM_count_19 : decode cM_count 19 = .ok (.istore_n 2, 1) := by decide +kernel
theorem dM_count_20 : decode cM_count 20 = .ok (.iload_n 1, 1) := by decide +kernel
theorem dM_count_21 : decode cM_count 21 = .ok (.tableswitch 129 0 5 #[39, 44, 74, 81, 90, 124], 39) := by decide +kernel
theorem dM_count_60 : decode cM_count 60 = .ok (.aload_n 0, 1) := by decide +kernel
theorem dM_count_61 : decode cM_count 61 = .ok (.invokevirtual 44, 3) := by decide +kernel
theorem dM_count_64 : decode cM_count 64 = .ok (.ireturn, 1) := by decide +kernel
theorem dM_count_65 : decode cM_count 65 = .ok (.iconst 0, 1) := by decide +kernel
theorem dM_count_66 : decode cM_count 66 = .ok (.istore_n 3, 1) := by decide +kernel
theorem dM_count_67 : decode cM_count 67 = .ok (.iload_n 3, 1) := by decide +kernel
theorem dM_count_68 : decode cM_count 68 = .ok (.aload_n 0, 1) := by decide +kernel
theorem dM_count_69 : decode cM_count 69 = .ok (.invokevirtual 44, 3) := by decide +kernel
theorem dM_count_72 : decode cM_count 72 = .ok (.if_icmp .ge 21, 3) := by decide +kernel
theorem dM_count_75 : decode cM_count 75 = .ok (.iload_n 2, 1) := by decide +kernel
theorem dM_count_76 : decode cM_count 76 = .ok (.aload_n 0, 1) := by decide +kernel
theorem dM_count_77 : decode cM_count 77 = .ok (.getfield 13, 3) := by decide +kernel
theorem dM_count_80 : decode cM_count 80 = .ok (.iload_n 3, 1) := by decide +kernel
theorem dM_count_81 : decode cM_count 81 = .ok (.iaload, 1) := by decide +kernel
theorem dM_count_82 : decode cM_count 82 = .ok (.invokestatic 97, 3) := by decide +kernel
theorem dM_count_85 : decode cM_count 85 = .ok (.iadd, 1) := by decide +kernel
theorem dM_count_86 : decode cM_count 86 = .ok (.istore_n 2, 1) := by decide +kernel
theorem dM_count_87 : decode cM_count 87 = .ok (.iinc 3 1, 3) := by decide +kernel
theorem dM_count_90 : decode cM_count 90 = .ok (.goto (-23), 3) := by decide +kernel
theorem dM_count_93 : decode cM_count 93 = .ok (.iload_n 2, 1) := by decide +kernel
theorem dM_count_94 : decode cM_count 94 = .ok (.ireturn, 1) := by decide +kernel
theorem dM_count_95 : decode cM_count 95 = .ok (.aload_n 0, 1) := by decide +kernel
theorem dM_count_96 : decode cM_count 96 = .ok (.getfield 19, 3) := by decide +kernel
theorem dM_count_99 : decode cM_count 99 = .ok (.iconst 0, 1) := by decide +kernel
theorem dM_count_100 : decode cM_count 100 = .ok (.iaload, 1) := by decide +kernel
theorem dM_count_101 : decode cM_count 101 = .ok (.ireturn, 1) := by decide +kernel
theorem dM_count_102 : decode cM_count 102 = .ok (.aload_n 0, 1) := by decide +kernel
theorem dM_count_103 : decode cM_count 103 = .ok (.invokevirtual 147, 3) := by decide +kernel
theorem dM_count_106 : decode cM_count 106 = .ok (.aload_n 0, 1) := by decide +kernel
theorem dM_count_107 : decode cM_count 107 = .ok (.getfield 138, 3) := by decide +kernel
theorem dM_count_110 : decode cM_count 110 = .ok (.ireturn, 1) := by decide +kernel
theorem dM_count_111 : decode cM_count 111 = .ok (.aload_n 0, 1) := by decide +kernel
theorem dM_count_112 : decode cM_count 112 = .ok (.invokevirtual 147, 3) := by decide +kernel
theorem dM_count_115 : decode cM_count 115 = .ok (.iconst 0, 1) := by decide +kernel
theorem dM_count_116 : decode cM_count 116 = .ok (.istore_n 3, 1) := by decide +kernel
theorem dM_count_117 : decode cM_count 117 = .ok (.iload_n 3, 1) := by decide +kernel
theorem dM_count_118 : decode cM_count 118 = .ok (.aload_n 0, 1) := by decide +kernel
theorem dM_count_119 : decode cM_count 119 = .ok (.invokevirtual 44, 3) := by decide +kernel
theorem dM_count_122 : decode cM_count 122 = .ok (.if_icmp .ge 21, 3) := by decide +kernel
theorem dM_count_125 : decode cM_count 125 = .ok (.iload_n 2, 1) := by decide +kernel
theorem dM_count_126 : decode cM_count 126 = .ok (.aload_n 0, 1) := by decide +kernel
theorem dM_count_127 : decode cM_count 127 = .ok (.getfield 34, 3) := by decide +kernel
theorem dM_count_130 : decode cM_count 130 = .ok (.iload_n 3, 1) := by decide +kernel
theorem dM_count_131 : decode cM_count 131 = .ok (.iaload, 1) := by decide +kernel
theorem dM_count_132 : decode cM_count 132 = .ok (.invokestatic 97, 3) := by decide +kernel
theorem dM_count_135 : decode cM_count 135 = .ok (.iadd, 1) := by decide +kernel
theorem dM_count_136 : decode cM_count 136 = .ok (.istore_n 2, 1) := by decide +kernel
theorem dM_count_137 : decode cM_count 137 = .ok (.iinc 3 1, 3) := by decide +kernel
theorem dM_count_140 : decode cM_count 140 = .ok (.goto (-23), 3) := by decide +kernel
theorem dM_count_143 : decode cM_count 143 = .ok (.iload_n 2, 1) := by decide +kernel
theorem dM_count_144 : decode cM_count 144 = .ok (.ireturn, 1) := by decide +kernel
theorem dM_count_145 : decode cM_count 145 = .ok (.aload_n 0, 1) := by decide +kernel
theorem dM_count_146 : decode cM_count 146 = .ok (.invokevirtual 150, 3) := by decide +kernel
theorem dM_count_149 : decode cM_count 149 = .ok (.ireturn, 1) := by decide +kernel
theorem dM_count_150 : decode cM_count 150 = .ok (.aload_n 0, 1) := by decide +kernel
theorem dM_count_151 : decode cM_count 151 = .ok (.invokevirtual 153, 3) := by decide +kernel
theorem dM_count_154 : decode cM_count 154 = .ok (.ireturn, 1) := by decide +kernel
theorem tw_3_174 : (Jvm.Cond.instanceMethod ({ cls := "ActSurgeryModel", name := "findLike", desc := "()V" } : Jvm.MethodName)) ∈ x_GT := x_t3 174 rfl rfl
theorem tws_50 : (Jvm.Cond.selects "ActSurgeryModel" ({ cls := "ActSurgeryModel", name := "findLike", desc := "()V" } : Jvm.MethodName) ({ cls := "ActSurgeryModel", name := "findLike", desc := "()V" } : Jvm.MethodName)) ∈ x_GT := x_ts 50 rfl rfl
theorem tw_3_175 : (Jvm.Cond.code ({ cls := "ActSurgeryModel", name := "findLike", desc := "()V" } : Jvm.MethodName) prog_7_method_43_code (5 : Nat) (Option.none : Option Jvm.ClassFile.FieldType)) ∈ x_GT := x_t3 175 rfl rfl
theorem tw_3_172 : (Jvm.Cond.methodLink "ActSurgeryModel" (147 : Nat) ({ cls := "ActSurgeryModel", name := "findLike", desc := "()V" } : Jvm.MethodName)) ∈ x_GT := x_t3 172 rfl rfl
theorem kM_147 : x_kV "ActSurgeryModel" 147 yM_findLike cM_findLike 5 none 0 5 := ⟨tw_3_174, tws_50, tw_3_175, tw_1_6, tw_3_172, (by decide +kernel), rfl⟩
theorem tw_3_189 : (Jvm.Cond.instanceMethod ({ cls := "ActSurgeryModel", name := "clumps", desc := "()I" } : Jvm.MethodName)) ∈ x_GT := x_t3 189 rfl rfl
theorem tws_53 : (Jvm.Cond.selects "ActSurgeryModel" ({ cls := "ActSurgeryModel", name := "clumps", desc := "()I" } : Jvm.MethodName) ({ cls := "ActSurgeryModel", name := "clumps", desc := "()I" } : Jvm.MethodName)) ∈ x_GT := x_ts 53 rfl rfl
theorem tw_3_190 : (Jvm.Cond.code ({ cls := "ActSurgeryModel", name := "clumps", desc := "()I" } : Jvm.MethodName) prog_7_method_38_code (4 : Nat) (Option.some Jvm.ClassFile.FieldType.int)) ∈ x_GT := x_t3 190 rfl rfl
theorem tw_3_187 : (Jvm.Cond.methodLink "ActSurgeryModel" (150 : Nat) ({ cls := "ActSurgeryModel", name := "clumps", desc := "()I" } : Jvm.MethodName)) ∈ x_GT := x_t3 187 rfl rfl
theorem kM_150 : x_kV "ActSurgeryModel" 150 yM_clumps cM_clumps 4 (some .int) 0 5 := ⟨tw_3_189, tws_53, tw_3_190, tw_1_6, tw_3_187, (by decide +kernel), rfl⟩
theorem tw_3_193 : (Jvm.Cond.instanceMethod ({ cls := "ActSurgeryModel", name := "partedPairs", desc := "()I" } : Jvm.MethodName)) ∈ x_GT := x_t3 193 rfl rfl
theorem tws_54 : (Jvm.Cond.selects "ActSurgeryModel" ({ cls := "ActSurgeryModel", name := "partedPairs", desc := "()I" } : Jvm.MethodName) ({ cls := "ActSurgeryModel", name := "partedPairs", desc := "()I" } : Jvm.MethodName)) ∈ x_GT := x_ts 54 rfl rfl
theorem tw_3_194 : (Jvm.Cond.code ({ cls := "ActSurgeryModel", name := "partedPairs", desc := "()I" } : Jvm.MethodName) prog_7_method_46_code (4 : Nat) (Option.some Jvm.ClassFile.FieldType.int)) ∈ x_GT := x_t3 194 rfl rfl
theorem tw_3_191 : (Jvm.Cond.methodLink "ActSurgeryModel" (153 : Nat) ({ cls := "ActSurgeryModel", name := "partedPairs", desc := "()I" } : Jvm.MethodName)) ∈ x_GT := x_t3 191 rfl rfl
theorem kM_153 : x_kV "ActSurgeryModel" 153 yM_partedPairs cM_partedPairs 4 (some .int) 0 5 := ⟨tw_3_193, tws_54, tw_3_194, tw_1_6, tw_3_191, (by decide +kernel), rfl⟩
def fM_count_117  : Nat → x_W → Nat → Int32 → Int32 → Option (Int32 × x_W)
  | 0, _, _, _, _ => none
  | n + 1, w, v0, v2, v3 =>
    (x_ob w v0 5).bind fun _ =>
    (fM_n w v0).bind fun t2 =>
    if t2 ≤ v3 then
      some (v2, w)
    else
      (x_fr w v0 5 10).bind fun t4 =>
      (x_ai w t4 v3).bind fun t5 =>
      (fM_ones t5).bind fun t6 =>
      fM_count_117 n w v0 (v2 + t6) (v3 + (1 : Int32))
def fM_count_67  : Nat → x_W → Nat → Int32 → Int32 → Option (Int32 × x_W)
  | 0, _, _, _, _ => none
  | n + 1, w, v0, v2, v3 =>
    (x_ob w v0 5).bind fun _ =>
    (fM_n w v0).bind fun t2 =>
    if t2 ≤ v3 then
      some (v2, w)
    else
      (x_fr w v0 5 1).bind fun t4 =>
      (x_ai w t4 v3).bind fun t5 =>
      (fM_ones t5).bind fun t6 =>
      fM_count_67 n w v0 (v2 + t6) (v3 + (1 : Int32))
def fM_count  (w : x_W) (v0 : Nat) (v1 : Int32) : Option (Int32 × x_W) :=
  if (fM_isIn v1 (0 : Int32) (6 : Int32)) = (0 : Int32) then
    some ((-2 : Int32), w)
  else
    (x_pf w v0 5 4 (.int (0 : Int32))).bind fun w2 =>
    if v1 = (0 : Int32) then
      (x_ob w2 v0 5).bind fun _ =>
      (fM_n w2 v0).bind fun t5 =>
      some (t5, w2)
    else
    if v1 = (1 : Int32) then
      fM_count_67 x_F w2 v0 (0 : Int32) (0 : Int32)
    else
    if v1 = (2 : Int32) then
      (x_fr w2 v0 5 3).bind fun t8 =>
      (x_ai w2 t8 (0 : Int32)).bind fun t9 =>
      some (t9, w2)
    else
    if v1 = (3 : Int32) then
      (x_ob w2 v0 5).bind fun _ =>
      (fM_findLike w2 v0).bind fun w12 =>
      (x_fi w12 v0 5 11).bind fun t13 =>
      some (t13, w12)
    else
    if v1 = (4 : Int32) then
      (x_ob w2 v0 5).bind fun _ =>
      (fM_findLike w2 v0).bind fun w16 =>
      fM_count_117 x_F w16 v0 (0 : Int32) (0 : Int32)
    else
    if v1 = (5 : Int32) then
      (x_ob w2 v0 5).bind fun _ =>
      (fM_clumps w2 v0).bind fun q19 =>
      some (q19.1, q19.2)
    else
      (x_ob w2 v0 5).bind fun _ =>
      (fM_partedPairs w2 v0).bind fun q21 =>
      some (q21.1, q21.2)
set_option maxHeartbeats 4000000 in
set_option maxRecDepth 100000 in
theorem lM_count_117 (d : Nat) (hd : 10 ≤ d) {K : Option Value → x_W → Prop} {r : (Int32 × x_W)} (hK : K (some (.int r.1)) r.2) : ∀ (n : Nat) (w : x_W) (v0 : Nat) (v2 : Int32) (v3 : Int32), fM_count_117 n w v0 v2 v3 = some r → x_G none yM_count cM_count 4 (some .int) (x_room d 0 0) (x_QM K 0 0) 117 [some (.ref v0), none, some (.int v2), some (.int v3)] [] w 0 0 := by
  intro n
  induction n with
  | zero => intro w v0 v2 v3 h; rw [fM_count_117] at h; cases h
  | succ n ih =>
    intro w v0 v2 v3 h
    rw [fM_count_117] at h
    refine g_iload_n 118 (i := 3) dM_count_117 rfl rfl rfl ?_
    refine g_aload_n 119 (i := 0) dM_count_118 rfl rfl rfl ?_
    obtain ⟨_, e1, h⟩ := x_bind h
    obtain ⟨t2, e2, h⟩ := x_bind h
    refine g_cV 122 (some (.int t2)) w [] [.int v3] dM_count_119 rfl (fun _ hK2 => mM_n (d - 1) (by omega) e2 hK2) (x_ob_some e1) kM_44 (x_rm (Nat.le_trans (by decide) hd) (by decide)) ⟨Nat.zero_le _, Nat.zero_le _⟩ (Nat.le_of_ble_eq_true rfl) rfl ?_
    by_cases c3 : t2 ≤ v3
    · rw [if_pos c3] at h
      refine g_icmp_ge_t 143 dM_count_122 (by decide) c3 ?_
      refine g_iload_n 144 (i := 2) dM_count_143 rfl rfl rfl ?_
      obtain rfl := Option.some.inj h
      exact g_iret rfl dM_count_144 hK
    · rw [if_neg c3] at h
      refine g_icmp_ge_f 125 143 dM_count_122 (by decide) rfl c3 ?_
      refine g_iload_n 126 (i := 2) dM_count_125 rfl rfl rfl ?_
      refine g_aload_n 127 (i := 0) dM_count_126 rfl rfl rfl ?_
      obtain ⟨t4, e4, h⟩ := x_bind h
      refine g_getfR 130 5 10 dM_count_127 rfl x_in5 tw_3_5 rfl (by decide) e4 ?_
      refine g_iload_n 131 (i := 3) dM_count_130 rfl rfl rfl ?_
      obtain ⟨t5, e5, h⟩ := x_bind h
      refine g_iald 132 dM_count_131 rfl e5 ?_
      obtain ⟨t6, e6, h⟩ := x_bind h
      refine g_cS 135 (some (.int t6)) w [.int t5] [.int v2] dM_count_132 rfl (fun _ hK2 => mM_ones (d - 1) (by omega) e6 hK2) kM_97 (x_rm (Nat.le_trans (by decide) hd) (by decide)) ⟨Nat.zero_le _, Nat.zero_le _⟩ (Nat.le_of_ble_eq_true rfl) rfl ?_
      refine g_iadd 136 dM_count_135 rfl ?_
      refine g_istore_n 137 (i := 2) [some (.ref v0), none, some (.int (v2 + t6)), some (.int v3)] dM_count_136 rfl rfl rfl (by decide) ?_
      refine g_iinc 140 [some (.ref v0), none, some (.int (v2 + t6)), some (.int (v3 + (1 : Int32)))] dM_count_137 rfl rfl (x_inc (1 : Int32) (by decide)) rfl (by decide) ?_
      refine g_goto 117 dM_count_140 (by decide) ?_
      exact ih _ _ _ _ h
set_option maxHeartbeats 4000000 in
set_option maxRecDepth 100000 in
theorem lM_count_67 (d : Nat) (hd : 10 ≤ d) {K : Option Value → x_W → Prop} {r : (Int32 × x_W)} (hK : K (some (.int r.1)) r.2) : ∀ (n : Nat) (w : x_W) (v0 : Nat) (v2 : Int32) (v3 : Int32), fM_count_67 n w v0 v2 v3 = some r → x_G none yM_count cM_count 4 (some .int) (x_room d 0 0) (x_QM K 0 0) 67 [some (.ref v0), none, some (.int v2), some (.int v3)] [] w 0 0 := by
  intro n
  induction n with
  | zero => intro w v0 v2 v3 h; rw [fM_count_67] at h; cases h
  | succ n ih =>
    intro w v0 v2 v3 h
    rw [fM_count_67] at h
    refine g_iload_n 68 (i := 3) dM_count_67 rfl rfl rfl ?_
    refine g_aload_n 69 (i := 0) dM_count_68 rfl rfl rfl ?_
    obtain ⟨_, e1, h⟩ := x_bind h
    obtain ⟨t2, e2, h⟩ := x_bind h
    refine g_cV 72 (some (.int t2)) w [] [.int v3] dM_count_69 rfl (fun _ hK2 => mM_n (d - 1) (by omega) e2 hK2) (x_ob_some e1) kM_44 (x_rm (Nat.le_trans (by decide) hd) (by decide)) ⟨Nat.zero_le _, Nat.zero_le _⟩ (Nat.le_of_ble_eq_true rfl) rfl ?_
    by_cases c3 : t2 ≤ v3
    · rw [if_pos c3] at h
      refine g_icmp_ge_t 93 dM_count_72 (by decide) c3 ?_
      refine g_iload_n 94 (i := 2) dM_count_93 rfl rfl rfl ?_
      obtain rfl := Option.some.inj h
      exact g_iret rfl dM_count_94 hK
    · rw [if_neg c3] at h
      refine g_icmp_ge_f 75 93 dM_count_72 (by decide) rfl c3 ?_
      refine g_iload_n 76 (i := 2) dM_count_75 rfl rfl rfl ?_
      refine g_aload_n 77 (i := 0) dM_count_76 rfl rfl rfl ?_
      obtain ⟨t4, e4, h⟩ := x_bind h
      refine g_getfR 80 5 1 dM_count_77 rfl x_in5 tw_2_236 rfl (by decide) e4 ?_
      refine g_iload_n 81 (i := 3) dM_count_80 rfl rfl rfl ?_
      obtain ⟨t5, e5, h⟩ := x_bind h
      refine g_iald 82 dM_count_81 rfl e5 ?_
      obtain ⟨t6, e6, h⟩ := x_bind h
      refine g_cS 85 (some (.int t6)) w [.int t5] [.int v2] dM_count_82 rfl (fun _ hK2 => mM_ones (d - 1) (by omega) e6 hK2) kM_97 (x_rm (Nat.le_trans (by decide) hd) (by decide)) ⟨Nat.zero_le _, Nat.zero_le _⟩ (Nat.le_of_ble_eq_true rfl) rfl ?_
      refine g_iadd 86 dM_count_85 rfl ?_
      refine g_istore_n 87 (i := 2) [some (.ref v0), none, some (.int (v2 + t6)), some (.int v3)] dM_count_86 rfl rfl rfl (by decide) ?_
      refine g_iinc 90 [some (.ref v0), none, some (.int (v2 + t6)), some (.int (v3 + (1 : Int32)))] dM_count_87 rfl rfl (x_inc (1 : Int32) (by decide)) rfl (by decide) ?_
      refine g_goto 67 dM_count_90 (by decide) ?_
      exact ih _ _ _ _ h
set_option maxHeartbeats 4000000 in
set_option maxRecDepth 100000 in
theorem mM_count (d : Nat) (hd : 10 ≤ d) {K : Option Value → x_W → Prop} {w : x_W} {v0 : Nat} {v1 : Int32} {r : (Int32 × x_W)} (h : fM_count w v0 v1 = some r) (hK : K (some (.int r.1)) r.2) : x_M yM_count cM_count 4 (some .int) d 0 0 [.ref v0, .int v1] w K := by
  refine x_M.of [some (.ref v0), some (.int v1), none, none] (by decide) rfl (Nat.le_of_ble_eq_true rfl) ?_
  unfold fM_count at h
  refine g_iload_n 1 (i := 1) dM_count_0 rfl rfl rfl ?_
  refine g_iconst 2 (0 : Int32) dM_count_1 rfl (by decide) ?_
  refine g_bipush 4 (6 : Int32) dM_count_2 rfl (by decide) ?_
  refine g_cS 7 (some (.int (fM_isIn v1 (0 : Int32) (6 : Int32)))) w [.int v1, .int (0 : Int32), .int (6 : Int32)] [] dM_count_4 rfl (fun _ hK2 => mM_isIn (d - 1) (by omega) rfl hK2) kM_48 (x_rm (Nat.le_trans (by decide) hd) (by decide)) ⟨Nat.zero_le _, Nat.zero_le _⟩ (Nat.le_of_ble_eq_true rfl) rfl ?_
  by_cases c1 : (fM_isIn v1 (0 : Int32) (6 : Int32)) = (0 : Int32)
  · rw [if_pos c1] at h
    refine g_if_ne_f 10 13 dM_count_7 (by decide) rfl c1 ?_
    refine g_bipush 12 (-2 : Int32) dM_count_10 rfl (by decide) ?_
    obtain rfl := Option.some.inj h
    exact g_iret rfl dM_count_12 hK
  · rw [if_neg c1] at h
    refine g_if_ne_t 13 dM_count_7 (by decide) c1 ?_
    refine g_aload_n 14 (i := 0) dM_count_13 rfl rfl rfl ?_
    refine g_iconst 15 (0 : Int32) dM_count_14 rfl (by decide) ?_
    obtain ⟨w2, e2, h⟩ := x_bind h
    refine g_putf 18 5 4 xy5 xy5_ok xn5 dM_count_15 rfl x_in5 tw_2_239 rfl (by decide) rfl (fun _ _ => ⟨rfl, rfl⟩) e2 ?_
    refine g_iconst 19 (0 : Int32) dM_count_18 rfl (by decide) ?_
    refine g_istore_n 20 (i := 2) [some (.ref v0), some (.int v1), some (.int (0 : Int32)), none] dM_count_19 rfl rfl rfl (by decide) ?_
    refine g_iload_n 21 (i := 1) dM_count_20 rfl rfl rfl ?_
    by_cases c3 : v1 = (0 : Int32)
    · rw [if_pos c3] at h
      refine g_tabIn 60 (v := (0 : Int32)) dM_count_21 c3 (by decide) (by decide) rfl (by decide) ?_
      refine g_aload_n 61 (i := 0) dM_count_60 rfl rfl rfl ?_
      obtain ⟨_, e4, h⟩ := x_bind h
      obtain ⟨t5, e5, h⟩ := x_bind h
      refine g_cV 64 (some (.int t5)) w2 [] [] dM_count_61 rfl (fun _ hK2 => mM_n (d - 1) (by omega) e5 hK2) (x_ob_some e4) kM_44 (x_rm (Nat.le_trans (by decide) hd) (by decide)) ⟨Nat.zero_le _, Nat.zero_le _⟩ (Nat.le_of_ble_eq_true rfl) rfl ?_
      obtain rfl := Option.some.inj h
      exact g_iret rfl dM_count_64 hK
    · rw [if_neg c3] at h
      by_cases c6 : v1 = (1 : Int32)
      · rw [if_pos c6] at h
        refine g_tabIn 65 (v := (1 : Int32)) dM_count_21 c6 (by decide) (by decide) rfl (by decide) ?_
        refine g_iconst 66 (0 : Int32) dM_count_65 rfl (by decide) ?_
        refine g_istore_n 67 (i := 3) [some (.ref v0), some (.int v1), some (.int (0 : Int32)), some (.int (0 : Int32))] dM_count_66 rfl rfl rfl (by decide) ?_
        refine g_less [some (.ref v0), none, some (.int (0 : Int32)), some (.int (0 : Int32))] ⟨rfl, rfl, rfl, trivial⟩ ?_
        exact lM_count_67 d hd hK x_F _ _ _ _ h
      · rw [if_neg c6] at h
        by_cases c7 : v1 = (2 : Int32)
        · rw [if_pos c7] at h
          refine g_tabIn 95 (v := (2 : Int32)) dM_count_21 c7 (by decide) (by decide) rfl (by decide) ?_
          refine g_aload_n 96 (i := 0) dM_count_95 rfl rfl rfl ?_
          obtain ⟨t8, e8, h⟩ := x_bind h
          refine g_getfR 99 5 3 dM_count_96 rfl x_in5 tw_2_238 rfl (by decide) e8 ?_
          refine g_iconst 100 (0 : Int32) dM_count_99 rfl (by decide) ?_
          obtain ⟨t9, e9, h⟩ := x_bind h
          refine g_iald 101 dM_count_100 rfl e9 ?_
          obtain rfl := Option.some.inj h
          exact g_iret rfl dM_count_101 hK
        · rw [if_neg c7] at h
          by_cases c10 : v1 = (3 : Int32)
          · rw [if_pos c10] at h
            refine g_tabIn 102 (v := (3 : Int32)) dM_count_21 c10 (by decide) (by decide) rfl (by decide) ?_
            refine g_aload_n 103 (i := 0) dM_count_102 rfl rfl rfl ?_
            obtain ⟨_, e11, h⟩ := x_bind h
            obtain ⟨w12, e12, h⟩ := x_bind h
            refine g_cV 106 none w12 [] [] dM_count_103 rfl (fun _ hK2 => mM_findLike (d - 1) (by omega) e12 hK2) (x_ob_some e11) kM_147 (x_rm (Nat.le_trans (by decide) hd) (by decide)) ⟨Nat.zero_le _, Nat.zero_le _⟩ (Nat.le_of_ble_eq_true rfl) rfl ?_
            refine g_aload_n 107 (i := 0) dM_count_106 rfl rfl rfl ?_
            obtain ⟨t13, e13, h⟩ := x_bind h
            refine g_getfI 110 5 11 dM_count_107 rfl x_in5 tw_3_6 rfl (by decide) e13 ?_
            obtain rfl := Option.some.inj h
            exact g_iret rfl dM_count_110 hK
          · rw [if_neg c10] at h
            by_cases c14 : v1 = (4 : Int32)
            · rw [if_pos c14] at h
              refine g_tabIn 111 (v := (4 : Int32)) dM_count_21 c14 (by decide) (by decide) rfl (by decide) ?_
              refine g_aload_n 112 (i := 0) dM_count_111 rfl rfl rfl ?_
              obtain ⟨_, e15, h⟩ := x_bind h
              obtain ⟨w16, e16, h⟩ := x_bind h
              refine g_cV 115 none w16 [] [] dM_count_112 rfl (fun _ hK2 => mM_findLike (d - 1) (by omega) e16 hK2) (x_ob_some e15) kM_147 (x_rm (Nat.le_trans (by decide) hd) (by decide)) ⟨Nat.zero_le _, Nat.zero_le _⟩ (Nat.le_of_ble_eq_true rfl) rfl ?_
              refine g_iconst 116 (0 : Int32) dM_count_115 rfl (by decide) ?_
              refine g_istore_n 117 (i := 3) [some (.ref v0), some (.int v1), some (.int (0 : Int32)), some (.int (0 : Int32))] dM_count_116 rfl rfl rfl (by decide) ?_
              refine g_less [some (.ref v0), none, some (.int (0 : Int32)), some (.int (0 : Int32))] ⟨rfl, rfl, rfl, trivial⟩ ?_
              exact lM_count_117 d hd hK x_F _ _ _ _ h
            · rw [if_neg c14] at h
              by_cases c17 : v1 = (5 : Int32)
              · rw [if_pos c17] at h
                refine g_tabIn 145 (v := (5 : Int32)) dM_count_21 c17 (by decide) (by decide) rfl (by decide) ?_
                refine g_aload_n 146 (i := 0) dM_count_145 rfl rfl rfl ?_
                obtain ⟨_, e18, h⟩ := x_bind h
                obtain ⟨q19, e19, h⟩ := x_bind h
                refine g_cV 149 (some (.int q19.1)) q19.2 [] [] dM_count_146 rfl (fun _ hK2 => mM_clumps (d - 1) (by omega) e19 hK2) (x_ob_some e18) kM_150 (x_rm (Nat.le_trans (by decide) hd) (by decide)) ⟨Nat.zero_le _, Nat.zero_le _⟩ (Nat.le_of_ble_eq_true rfl) rfl ?_
                obtain rfl := Option.some.inj h
                exact g_iret rfl dM_count_149 hK
              · rw [if_neg c17] at h
                have q3 := lv_neT (a := 0) c3 (by decide)
                have q6 := lv_neT (a := 1) c6 (by decide)
                have q7 := lv_neT (a := 2) c7 (by decide)
                have q10 := lv_neT (a := 3) c10 (by decide)
                have q14 := lv_neT (a := 4) c14 (by decide)
                have q17 := lv_neT (a := 5) c17 (by decide)
                refine g_tabOut 150 dM_count_21 (by omega) (by decide) ?_
                refine g_aload_n 151 (i := 0) dM_count_150 rfl rfl rfl ?_
                obtain ⟨_, e20, h⟩ := x_bind h
                obtain ⟨q21, e21, h⟩ := x_bind h
                refine g_cV 154 (some (.int q21.1)) q21.2 [] [] dM_count_151 rfl (fun _ hK2 => mM_partedPairs (d - 1) (by omega) e21 hK2) (x_ob_some e20) kM_153 (x_rm (Nat.le_trans (by decide) hd) (by decide)) ⟨Nat.zero_le _, Nat.zero_le _⟩ (Nat.le_of_ble_eq_true rfl) rfl ?_
                obtain rfl := Option.some.inj h
                exact g_iret rfl dM_count_154 hK
/-! ActSurgeryModel.before(I)I: level P -/
theorem dM_before_0 : decode cM_before 0 = .ok (.iconst 0, 1) := by decide +kernel
theorem dM_before_1 : decode cM_before 1 = .ok (.istore_n 2, 1) := by decide +kernel
theorem dM_before_2 : decode cM_before 2 = .ok (.iconst 0, 1) := by decide +kernel
theorem dM_before_3 : decode cM_before 3 = .ok (.istore_n 3, 1) := by decide +kernel
theorem dM_before_4 : decode cM_before 4 = .ok (.iload_n 3, 1) := by decide +kernel
theorem dM_before_5 : decode cM_before 5 = .ok (.aload_n 0, 1) := by decide +kernel
theorem dM_before_6 : decode cM_before 6 = .ok (.invokevirtual 44, 3) := by decide +kernel
theorem dM_before_9 : decode cM_before 9 = .ok (.if_icmp .ge 31, 3) := by decide +kernel
theorem dM_before_12 : decode cM_before 12 = .ok (.aload_n 0, 1) := by decide +kernel
theorem dM_before_13 : decode cM_before 13 = .ok (.iload_n 3, 1) := by decide +kernel
theorem dM_before_14 : decode cM_before 14 = .ok (.invokevirtual 81, 3) := by decide +kernel
theorem dM_before_17 : decode cM_before 17 = .ok (.iload_n 1, 1) := by decide +kernel
theorem dM_before_18 : decode cM_before 18 = .ok (.invokestatic 62, 3) := by decide +kernel
theorem dM_before_21 : decode cM_before 21 = .ok (.ifCond .eq 11, 3) := by decide +kernel
theorem dM_before_24 : decode cM_before 24 = .ok (.iload_n 2, 1) := by decide +kernel
theorem dM_before_25 : decode cM_before 25 = .ok (.iconst 1, 1) := by decide +kernel
theorem dM_before_26 : decode cM_before 26 = .ok (.iload_n 3, 1) := by decide +kernel
theorem dM_before_27 : decode cM_before 27 = .ok (.ishl, 1) := by decide +kernel
theorem dM_before_28 : decode cM_before 28 = .ok (.ior, 1) := by decide +kernel
theorem dM_before_29 : decode cM_before 29 = .ok (.goto 4, 3) := by decide +kernel
theorem dM_before_32 : decode cM_before 32 = .ok (.iload_n 2, 1) := by decide +kernel
theorem dM_before_33 : decode cM_before 33 = .ok (.istore_n 2, 1) := by decide +kernel
theorem dM_before_34 : decode cM_before 34 = .ok (.iinc 3 1, 3) := by decide +kernel
theorem dM_before_37 : decode cM_before 37 = .ok (.goto (-33), 3) := by decide +kernel
theorem dM_before_40 : decode cM_before 40 = .ok (.iload_n 2, 1) := by decide +kernel
theorem dM_before_41 : decode cM_before 41 = .ok (.ireturn, 1) := by decide +kernel
def fM_before_4 (w : x_W) : Nat → Nat → Int32 → Int32 → Int32 → Option Int32
  | 0, _, _, _, _ => none
  | n + 1, v0, v1, v2, v3 =>
    (x_ob w v0 5).bind fun _ =>
    (fM_n w v0).bind fun t2 =>
    if t2 ≤ v3 then
      some v2
    else
      (fM_after w v0 v3).bind fun t4 =>
      if (fM_has t4 v1) = (0 : Int32) then
        fM_before_4 w n v0 v1 v2 (v3 + (1 : Int32))
      else
        fM_before_4 w n v0 v1 (v2 ||| ((1 : Int32) <<< (v3 &&& 31))) (v3 + (1 : Int32))
def fM_before (w : x_W) (v0 : Nat) (v1 : Int32) : Option Int32 :=
  fM_before_4 w x_F v0 v1 (0 : Int32) (0 : Int32)
set_option maxHeartbeats 4000000 in
set_option maxRecDepth 100000 in
theorem lM_before_4 (d : Nat) (hd : 6 ≤ d) {K : Option Value → x_W → Prop} {r : Int32} {w : x_W} (hK : K (some (.int r)) w) : ∀ (n : Nat) (v0 : Nat) (v1 : Int32) (v2 : Int32) (v3 : Int32), fM_before_4 w n v0 v1 v2 v3 = some r → x_G none yM_before cM_before 4 (some .int) (x_room d 0 0) (x_QM K 0 0) 4 [some (.ref v0), some (.int v1), some (.int v2), some (.int v3)] [] w 0 0 := by
  intro n
  induction n with
  | zero => intro v0 v1 v2 v3 h; rw [fM_before_4] at h; cases h
  | succ n ih =>
    intro v0 v1 v2 v3 h
    rw [fM_before_4] at h
    refine g_iload_n 5 (i := 3) dM_before_4 rfl rfl rfl ?_
    refine g_aload_n 6 (i := 0) dM_before_5 rfl rfl rfl ?_
    obtain ⟨_, e1, h⟩ := x_bind h
    obtain ⟨t2, e2, h⟩ := x_bind h
    refine g_cV 9 (some (.int t2)) w [] [.int v3] dM_before_6 rfl (fun _ hK2 => mM_n (d - 1) (by omega) e2 hK2) (x_ob_some e1) kM_44 (x_rm (Nat.le_trans (by decide) hd) (by decide)) ⟨Nat.zero_le _, Nat.zero_le _⟩ (Nat.le_of_ble_eq_true rfl) rfl ?_
    by_cases c3 : t2 ≤ v3
    · rw [if_pos c3] at h
      refine g_icmp_ge_t 40 dM_before_9 (by decide) c3 ?_
      refine g_iload_n 41 (i := 2) dM_before_40 rfl rfl rfl ?_
      obtain rfl := Option.some.inj h
      exact g_iret rfl dM_before_41 hK
    · rw [if_neg c3] at h
      refine g_icmp_ge_f 12 40 dM_before_9 (by decide) rfl c3 ?_
      refine g_aload_n 13 (i := 0) dM_before_12 rfl rfl rfl ?_
      refine g_iload_n 14 (i := 3) dM_before_13 rfl rfl rfl ?_
      obtain ⟨t4, e4, h⟩ := x_bind h
      refine g_cV 17 (some (.int t4)) w [.int v3] [] dM_before_14 rfl (fun _ hK2 => mM_after (d - 1) (by omega) e4 hK2) (x_ob_some e1) kM_81 (x_rm (Nat.le_trans (by decide) hd) (by decide)) ⟨Nat.zero_le _, Nat.zero_le _⟩ (Nat.le_of_ble_eq_true rfl) rfl ?_
      refine g_iload_n 18 (i := 1) dM_before_17 rfl rfl rfl ?_
      refine g_cS 21 (some (.int (fM_has t4 v1))) w [.int t4, .int v1] [] dM_before_18 rfl (fun _ hK2 => mM_has (d - 1) (by omega) rfl hK2) kM_62 (x_rm (Nat.le_trans (by decide) hd) (by decide)) ⟨Nat.zero_le _, Nat.zero_le _⟩ (Nat.le_of_ble_eq_true rfl) rfl ?_
      by_cases c5 : (fM_has t4 v1) = (0 : Int32)
      · rw [if_pos c5] at h
        refine g_if_eq_t 32 dM_before_21 (by decide) c5 ?_
        refine g_iload_n 33 (i := 2) dM_before_32 rfl rfl rfl ?_
        refine g_istore_n 34 (i := 2) [some (.ref v0), some (.int v1), some (.int v2), some (.int v3)] dM_before_33 rfl rfl rfl (by decide) ?_
        refine g_iinc 37 [some (.ref v0), some (.int v1), some (.int v2), some (.int (v3 + (1 : Int32)))] dM_before_34 rfl rfl (x_inc (1 : Int32) (by decide)) rfl (by decide) ?_
        refine g_goto 4 dM_before_37 (by decide) ?_
        exact ih _ _ _ _ h
      · rw [if_neg c5] at h
        refine g_if_eq_f 24 32 dM_before_21 (by decide) rfl c5 ?_
        refine g_iload_n 25 (i := 2) dM_before_24 rfl rfl rfl ?_
        refine g_iconst 26 (1 : Int32) dM_before_25 rfl (by decide) ?_
        refine g_iload_n 27 (i := 3) dM_before_26 rfl rfl rfl ?_
        refine g_ishl 28 dM_before_27 rfl ?_
        refine g_ior 29 dM_before_28 rfl ?_
        refine g_goto 33 dM_before_29 (by decide) ?_
        refine g_istore_n 34 (i := 2) [some (.ref v0), some (.int v1), some (.int (v2 ||| ((1 : Int32) <<< (v3 &&& 31)))), some (.int v3)] dM_before_33 rfl rfl rfl (by decide) ?_
        refine g_iinc 37 [some (.ref v0), some (.int v1), some (.int (v2 ||| ((1 : Int32) <<< (v3 &&& 31)))), some (.int (v3 + (1 : Int32)))] dM_before_34 rfl rfl (x_inc (1 : Int32) (by decide)) rfl (by decide) ?_
        refine g_goto 4 dM_before_37 (by decide) ?_
        exact ih _ _ _ _ h
set_option maxHeartbeats 4000000 in
set_option maxRecDepth 100000 in
theorem mM_before (d : Nat) (hd : 6 ≤ d) {K : Option Value → x_W → Prop} {w : x_W} {v0 : Nat} {v1 : Int32} {r : Int32} (h : fM_before w v0 v1 = some r) (hK : K (some (.int r)) w) : x_M yM_before cM_before 4 (some .int) d 0 0 [.ref v0, .int v1] w K := by
  refine x_M.of [some (.ref v0), some (.int v1), none, none] (by decide) rfl (Nat.le_of_ble_eq_true rfl) ?_
  unfold fM_before at h
  refine g_iconst 1 (0 : Int32) dM_before_0 rfl (by decide) ?_
  refine g_istore_n 2 (i := 2) [some (.ref v0), some (.int v1), some (.int (0 : Int32)), none] dM_before_1 rfl rfl rfl (by decide) ?_
  refine g_iconst 3 (0 : Int32) dM_before_2 rfl (by decide) ?_
  refine g_istore_n 4 (i := 3) [some (.ref v0), some (.int v1), some (.int (0 : Int32)), some (.int (0 : Int32))] dM_before_3 rfl rfl rfl (by decide) ?_
  exact lM_before_4 d hd hK x_F _ _ _ _ h
/-! ActSurgeryModel.of(II)I: level X -/
theorem dM_of_0 : decode cM_of 0 = .ok (.aload_n 0, 1) := by decide +kernel
theorem dM_of_1 : decode cM_of 1 = .ok (.iload_n 1, 1) := by decide +kernel
theorem dM_of_2 : decode cM_of 2 = .ok (.invokevirtual 55, 3) := by decide +kernel
theorem dM_of_5 : decode cM_of 5 = .ok (.ifCond .eq 12, 3) := by decide +kernel
theorem dM_of_8 : decode cM_of 8 = .ok (.iload_n 2, 1) := by decide +kernel
theorem dM_of_9 : decode cM_of 9 = .ok (.iconst 0, 1) := by decide +kernel
theorem dM_of_10 : decode cM_of 10 = .ok (.iconst 5, 1) := by decide +kernel
theorem dM_of_11 : decode cM_of 11 = .ok (.invokestatic 48, 3) := by decide +kernel
theorem dM_of_14 : decode cM_of 14 = .ok (.ifCond .ne 6, 3) := by decide +kernel
theorem dM_of_17 : decode cM_of 17 = .ok (.bipush (-2), 2) := by decide +kernel
theorem dM_of_19 : decode cM_of 19 = .ok (.ireturn, 1) := by decide +kernel
theorem dM_of_20 : decode cM_of 20 = .ok (.aload_n 0, 1) := by decide +kernel
theorem dM_of_21 : decode cM_of 21 = .ok (.iconst 0, 1) := by decide +kernel
theorem dM_of_22 : decode cM_of 22 = .ok (.putfield 66, 3) := by decide +kernel
theorem dM_of_25 : decode cM_of 25 = .ok (.iload_n 2, 1) := by decide +kernel
theorem dM_of_26 : decode cM_of 26 = .ok (.tableswitch 65 0 4 #[34, 41, 47, 53, 59], 34) := by decide +kernel
theorem dM_of_60 : decode cM_of 60 = .ok (.aload_n 0, 1) := by decide +kernel
theorem dM_of_61 : decode cM_of 61 = .ok (.getfield 13, 3) := by decide +kernel
theorem dM_of_64 : decode cM_of 64 = .ok (.iload_n 1, 1) := by decide +kernel
theorem dM_of_65 : decode cM_of 65 = .ok (.iaload, 1) := by decide +kernel
theorem dM_of_66 : decode cM_of 66 = .ok (.ireturn, 1) := by decide +kernel
theorem dM_of_67 : decode cM_of 67 = .ok (.aload_n 0, 1) := by decide +kernel
theorem dM_of_68 : decode cM_of 68 = .ok (.iload_n 1, 1) := by decide +kernel
theorem dM_of_69 : decode cM_of 69 = .ok (.invokevirtual 73, 3) := by decide +kernel
theorem dM_of_72 : decode cM_of 72 = .ok (.ireturn, 1) := by decide +kernel
theorem dM_of_73 : decode cM_of 73 = .ok (.aload_n 0, 1) := by decide +kernel
theorem dM_of_74 : decode cM_of 74 = .ok (.iload_n 1, 1) := by decide +kernel
theorem dM_of_75 : decode cM_of 75 = .ok (.invokevirtual 81, 3) := by decide +kernel
theorem dM_of_78 : decode cM_of 78 = .ok (.ireturn, 1) := by decide +kernel
theorem dM_of_79 : decode cM_of 79 = .ok (.aload_n 0, 1) := by decide +kernel
theorem dM_of_80 : decode cM_of 80 = .ok (.iload_n 1, 1) := by decide +kernel
theorem dM_of_81 : decode cM_of 81 = .ok (.invokevirtual 156, 3) := by decide +kernel
theorem dM_of_84 : decode cM_of 84 = .ok (.ireturn, 1) := by decide +kernel
theorem dM_of_85 : decode cM_of 85 = .ok (.aload_n 0, 1) := by decide +kernel
theorem dM_of_86 : decode cM_of 86 = .ok (.iload_n 1, 1) := by decide +kernel
theorem dM_of_87 : decode cM_of 87 = .ok (.invokevirtual 128, 3) := by decide +kernel
theorem dM_of_90 : decode cM_of 90 = .ok (.ireturn, 1) := by decide +kernel
theorem dM_of_91 : decode cM_of 91 = .ok (.aload_n 0, 1) := by decide +kernel
theorem dM_of_92 : decode cM_of 92 = .ok (.invokevirtual 147, 3) := by decide +kernel
theorem dM_of_95 : decode cM_of 95 = .ok (.aload_n 0, 1) := by decide +kernel
theorem dM_of_96 : decode cM_of 96 = .ok (.iload_n 1, 1) := by decide +kernel
theorem dM_of_97 : decode cM_of 97 = .ok (.invokevirtual 159, 3) := by decide +kernel
theorem dM_of_100 : decode cM_of 100 = .ok (.ireturn, 1) := by decide +kernel
theorem tw_3_201 : (Jvm.Cond.instanceMethod ({ cls := "ActSurgeryModel", name := "before", desc := "(I)I" } : Jvm.MethodName)) ∈ x_GT := x_t3 201 rfl rfl
theorem tws_55 : (Jvm.Cond.selects "ActSurgeryModel" ({ cls := "ActSurgeryModel", name := "before", desc := "(I)I" } : Jvm.MethodName) ({ cls := "ActSurgeryModel", name := "before", desc := "(I)I" } : Jvm.MethodName)) ∈ x_GT := x_ts 55 rfl rfl
theorem tw_3_202 : (Jvm.Cond.code ({ cls := "ActSurgeryModel", name := "before", desc := "(I)I" } : Jvm.MethodName) prog_7_method_47_code (4 : Nat) (Option.some Jvm.ClassFile.FieldType.int)) ∈ x_GT := x_t3 202 rfl rfl
theorem tw_3_199 : (Jvm.Cond.methodLink "ActSurgeryModel" (156 : Nat) ({ cls := "ActSurgeryModel", name := "before", desc := "(I)I" } : Jvm.MethodName)) ∈ x_GT := x_t3 199 rfl rfl
theorem kM_156 : x_kV "ActSurgeryModel" 156 yM_before cM_before 4 (some .int) 1 5 := ⟨tw_3_201, tws_55, tw_3_202, tw_1_6, tw_3_199, (by decide +kernel), rfl⟩
theorem tw_3_205 : (Jvm.Cond.instanceMethod ({ cls := "ActSurgeryModel", name := "sureFrom", desc := "(I)I" } : Jvm.MethodName)) ∈ x_GT := x_t3 205 rfl rfl
theorem tws_56 : (Jvm.Cond.selects "ActSurgeryModel" ({ cls := "ActSurgeryModel", name := "sureFrom", desc := "(I)I" } : Jvm.MethodName) ({ cls := "ActSurgeryModel", name := "sureFrom", desc := "(I)I" } : Jvm.MethodName)) ∈ x_GT := x_ts 56 rfl rfl
theorem tw_3_206 : (Jvm.Cond.code ({ cls := "ActSurgeryModel", name := "sureFrom", desc := "(I)I" } : Jvm.MethodName) prog_7_method_44_code (4 : Nat) (Option.some Jvm.ClassFile.FieldType.int)) ∈ x_GT := x_t3 206 rfl rfl
theorem tw_3_203 : (Jvm.Cond.methodLink "ActSurgeryModel" (159 : Nat) ({ cls := "ActSurgeryModel", name := "sureFrom", desc := "(I)I" } : Jvm.MethodName)) ∈ x_GT := x_t3 203 rfl rfl
theorem kM_159 : x_kV "ActSurgeryModel" 159 yM_sureFrom cM_sureFrom 4 (some .int) 1 5 := ⟨tw_3_205, tws_56, tw_3_206, tw_1_6, tw_3_203, (by decide +kernel), rfl⟩
def fM_of  (w : x_W) (v0 : Nat) (v1 : Int32) (v2 : Int32) : Option (Int32 × x_W) :=
  (x_ob w v0 5).bind fun _ =>
  (fM_isPlace w v0 v1).bind fun t2 =>
  if t2 = (0 : Int32) then
    some ((-2 : Int32), w)
  else
    if (fM_isIn v2 (0 : Int32) (5 : Int32)) = (0 : Int32) then
      some ((-2 : Int32), w)
    else
      (x_pf w v0 5 4 (.int (0 : Int32))).bind fun w5 =>
      if v2 = (0 : Int32) then
        (x_fr w5 v0 5 1).bind fun t7 =>
        (x_ai w5 t7 v1).bind fun t8 =>
        some (t8, w5)
      else
      if v2 = (1 : Int32) then
        (x_ob w5 v0 5).bind fun _ =>
        (fM_children w5 v0 v1).bind fun t11 =>
        some (t11, w5)
      else
      if v2 = (2 : Int32) then
        (x_ob w5 v0 5).bind fun _ =>
        (fM_after w5 v0 v1).bind fun t14 =>
        some (t14, w5)
      else
      if v2 = (3 : Int32) then
        (x_ob w5 v0 5).bind fun _ =>
        (fM_before w5 v0 v1).bind fun t17 =>
        some (t17, w5)
      else
      if v2 = (4 : Int32) then
        (x_ob w5 v0 5).bind fun _ =>
        (fM_clumpOf w5 v0 v1).bind fun q20 =>
        some (q20.1, q20.2)
      else
        (x_ob w5 v0 5).bind fun _ =>
        (fM_findLike w5 v0).bind fun w22 =>
        (x_ob w22 v0 5).bind fun _ =>
        (fM_sureFrom w22 v0 v1).bind fun t24 =>
        some (t24, w22)
set_option maxHeartbeats 4000000 in
set_option maxRecDepth 100000 in
theorem mM_of (d : Nat) (hd : 7 ≤ d) {K : Option Value → x_W → Prop} {w : x_W} {v0 : Nat} {v1 : Int32} {v2 : Int32} {r : (Int32 × x_W)} (h : fM_of w v0 v1 v2 = some r) (hK : K (some (.int r.1)) r.2) : x_M yM_of cM_of 3 (some .int) d 0 0 [.ref v0, .int v1, .int v2] w K := by
  refine x_M.of [some (.ref v0), some (.int v1), some (.int v2)] (by decide) rfl (Nat.le_of_ble_eq_true rfl) ?_
  unfold fM_of at h
  refine g_aload_n 1 (i := 0) dM_of_0 rfl rfl rfl ?_
  refine g_iload_n 2 (i := 1) dM_of_1 rfl rfl rfl ?_
  obtain ⟨_, e1, h⟩ := x_bind h
  obtain ⟨t2, e2, h⟩ := x_bind h
  refine g_cV 5 (some (.int t2)) w [.int v1] [] dM_of_2 rfl (fun _ hK2 => mM_isPlace (d - 1) (by omega) e2 hK2) (x_ob_some e1) kM_55 (x_rm (Nat.le_trans (by decide) hd) (by decide)) ⟨Nat.zero_le _, Nat.zero_le _⟩ (Nat.le_of_ble_eq_true rfl) rfl ?_
  by_cases c3 : t2 = (0 : Int32)
  · rw [if_pos c3] at h
    refine g_if_eq_t 17 dM_of_5 (by decide) c3 ?_
    refine g_bipush 19 (-2 : Int32) dM_of_17 rfl (by decide) ?_
    obtain rfl := Option.some.inj h
    exact g_iret rfl dM_of_19 hK
  · rw [if_neg c3] at h
    refine g_if_eq_f 8 17 dM_of_5 (by decide) rfl c3 ?_
    refine g_iload_n 9 (i := 2) dM_of_8 rfl rfl rfl ?_
    refine g_iconst 10 (0 : Int32) dM_of_9 rfl (by decide) ?_
    refine g_iconst 11 (5 : Int32) dM_of_10 rfl (by decide) ?_
    refine g_cS 14 (some (.int (fM_isIn v2 (0 : Int32) (5 : Int32)))) w [.int v2, .int (0 : Int32), .int (5 : Int32)] [] dM_of_11 rfl (fun _ hK2 => mM_isIn (d - 1) (by omega) rfl hK2) kM_48 (x_rm (Nat.le_trans (by decide) hd) (by decide)) ⟨Nat.zero_le _, Nat.zero_le _⟩ (Nat.le_of_ble_eq_true rfl) rfl ?_
    by_cases c4 : (fM_isIn v2 (0 : Int32) (5 : Int32)) = (0 : Int32)
    · rw [if_pos c4] at h
      refine g_if_ne_f 17 20 dM_of_14 (by decide) rfl c4 ?_
      refine g_bipush 19 (-2 : Int32) dM_of_17 rfl (by decide) ?_
      obtain rfl := Option.some.inj h
      exact g_iret rfl dM_of_19 hK
    · rw [if_neg c4] at h
      refine g_if_ne_t 20 dM_of_14 (by decide) c4 ?_
      refine g_aload_n 21 (i := 0) dM_of_20 rfl rfl rfl ?_
      refine g_iconst 22 (0 : Int32) dM_of_21 rfl (by decide) ?_
      obtain ⟨w5, e5, h⟩ := x_bind h
      refine g_putf 25 5 4 xy5 xy5_ok xn5 dM_of_22 rfl x_in5 tw_2_239 rfl (by decide) rfl (fun _ _ => ⟨rfl, rfl⟩) e5 ?_
      refine g_iload_n 26 (i := 2) dM_of_25 rfl rfl rfl ?_
      by_cases c6 : v2 = (0 : Int32)
      · rw [if_pos c6] at h
        refine g_tabIn 60 (v := (0 : Int32)) dM_of_26 c6 (by decide) (by decide) rfl (by decide) ?_
        refine g_aload_n 61 (i := 0) dM_of_60 rfl rfl rfl ?_
        obtain ⟨t7, e7, h⟩ := x_bind h
        refine g_getfR 64 5 1 dM_of_61 rfl x_in5 tw_2_236 rfl (by decide) e7 ?_
        refine g_iload_n 65 (i := 1) dM_of_64 rfl rfl rfl ?_
        obtain ⟨t8, e8, h⟩ := x_bind h
        refine g_iald 66 dM_of_65 rfl e8 ?_
        obtain rfl := Option.some.inj h
        exact g_iret rfl dM_of_66 hK
      · rw [if_neg c6] at h
        by_cases c9 : v2 = (1 : Int32)
        · rw [if_pos c9] at h
          refine g_tabIn 67 (v := (1 : Int32)) dM_of_26 c9 (by decide) (by decide) rfl (by decide) ?_
          refine g_aload_n 68 (i := 0) dM_of_67 rfl rfl rfl ?_
          refine g_iload_n 69 (i := 1) dM_of_68 rfl rfl rfl ?_
          obtain ⟨_, e10, h⟩ := x_bind h
          obtain ⟨t11, e11, h⟩ := x_bind h
          refine g_cV 72 (some (.int t11)) w5 [.int v1] [] dM_of_69 rfl (fun _ hK2 => mM_children (d - 1) (by omega) e11 hK2) (x_ob_some e10) kM_73 (x_rm (Nat.le_trans (by decide) hd) (by decide)) ⟨Nat.zero_le _, Nat.zero_le _⟩ (Nat.le_of_ble_eq_true rfl) rfl ?_
          obtain rfl := Option.some.inj h
          exact g_iret rfl dM_of_72 hK
        · rw [if_neg c9] at h
          by_cases c12 : v2 = (2 : Int32)
          · rw [if_pos c12] at h
            refine g_tabIn 73 (v := (2 : Int32)) dM_of_26 c12 (by decide) (by decide) rfl (by decide) ?_
            refine g_aload_n 74 (i := 0) dM_of_73 rfl rfl rfl ?_
            refine g_iload_n 75 (i := 1) dM_of_74 rfl rfl rfl ?_
            obtain ⟨_, e13, h⟩ := x_bind h
            obtain ⟨t14, e14, h⟩ := x_bind h
            refine g_cV 78 (some (.int t14)) w5 [.int v1] [] dM_of_75 rfl (fun _ hK2 => mM_after (d - 1) (by omega) e14 hK2) (x_ob_some e13) kM_81 (x_rm (Nat.le_trans (by decide) hd) (by decide)) ⟨Nat.zero_le _, Nat.zero_le _⟩ (Nat.le_of_ble_eq_true rfl) rfl ?_
            obtain rfl := Option.some.inj h
            exact g_iret rfl dM_of_78 hK
          · rw [if_neg c12] at h
            by_cases c15 : v2 = (3 : Int32)
            · rw [if_pos c15] at h
              refine g_tabIn 79 (v := (3 : Int32)) dM_of_26 c15 (by decide) (by decide) rfl (by decide) ?_
              refine g_aload_n 80 (i := 0) dM_of_79 rfl rfl rfl ?_
              refine g_iload_n 81 (i := 1) dM_of_80 rfl rfl rfl ?_
              obtain ⟨_, e16, h⟩ := x_bind h
              obtain ⟨t17, e17, h⟩ := x_bind h
              refine g_cV 84 (some (.int t17)) w5 [.int v1] [] dM_of_81 rfl (fun _ hK2 => mM_before (d - 1) (by omega) e17 hK2) (x_ob_some e16) kM_156 (x_rm (Nat.le_trans (by decide) hd) (by decide)) ⟨Nat.zero_le _, Nat.zero_le _⟩ (Nat.le_of_ble_eq_true rfl) rfl ?_
              obtain rfl := Option.some.inj h
              exact g_iret rfl dM_of_84 hK
            · rw [if_neg c15] at h
              by_cases c18 : v2 = (4 : Int32)
              · rw [if_pos c18] at h
                refine g_tabIn 85 (v := (4 : Int32)) dM_of_26 c18 (by decide) (by decide) rfl (by decide) ?_
                refine g_aload_n 86 (i := 0) dM_of_85 rfl rfl rfl ?_
                refine g_iload_n 87 (i := 1) dM_of_86 rfl rfl rfl ?_
                obtain ⟨_, e19, h⟩ := x_bind h
                obtain ⟨q20, e20, h⟩ := x_bind h
                refine g_cV 90 (some (.int q20.1)) q20.2 [.int v1] [] dM_of_87 rfl (fun _ hK2 => mM_clumpOf (d - 1) (by omega) e20 hK2) (x_ob_some e19) kM_128 (x_rm (Nat.le_trans (by decide) hd) (by decide)) ⟨Nat.zero_le _, Nat.zero_le _⟩ (Nat.le_of_ble_eq_true rfl) rfl ?_
                obtain rfl := Option.some.inj h
                exact g_iret rfl dM_of_90 hK
              · rw [if_neg c18] at h
                have q6 := lv_neT (a := 0) c6 (by decide)
                have q9 := lv_neT (a := 1) c9 (by decide)
                have q12 := lv_neT (a := 2) c12 (by decide)
                have q15 := lv_neT (a := 3) c15 (by decide)
                have q18 := lv_neT (a := 4) c18 (by decide)
                refine g_tabOut 91 dM_of_26 (by omega) (by decide) ?_
                refine g_aload_n 92 (i := 0) dM_of_91 rfl rfl rfl ?_
                obtain ⟨_, e21, h⟩ := x_bind h
                obtain ⟨w22, e22, h⟩ := x_bind h
                refine g_cV 95 none w22 [] [] dM_of_92 rfl (fun _ hK2 => mM_findLike (d - 1) (by omega) e22 hK2) (x_ob_some e21) kM_147 (x_rm (Nat.le_trans (by decide) hd) (by decide)) ⟨Nat.zero_le _, Nat.zero_le _⟩ (Nat.le_of_ble_eq_true rfl) rfl ?_
                refine g_aload_n 96 (i := 0) dM_of_95 rfl rfl rfl ?_
                refine g_iload_n 97 (i := 1) dM_of_96 rfl rfl rfl ?_
                obtain ⟨_, e23, h⟩ := x_bind h
                obtain ⟨t24, e24, h⟩ := x_bind h
                refine g_cV 100 (some (.int t24)) w22 [.int v1] [] dM_of_97 rfl (fun _ hK2 => mM_sureFrom (d - 1) (by omega) e24 hK2) (x_ob_some e23) kM_159 (x_rm (Nat.le_trans (by decide) hd) (by decide)) ⟨Nat.zero_le _, Nat.zero_le _⟩ (Nat.le_of_ble_eq_true rfl) rfl ?_
                obtain rfl := Option.some.inj h
                exact g_iret rfl dM_of_100 hK
/-! ActSurgeryModel.draws(IIII)J: level P -/
theorem dM_draws_0 : decode cM_draws 0 = .ok (.lconst 1, 1) := by decide +kernel
theorem dM_draws_1 : decode cM_draws 1 = .ok (.lstore 5, 2) := by decide +kernel
theorem dM_draws_3 : decode cM_draws 3 = .ok (.iconst 0, 1) := by decide +kernel
theorem dM_draws_4 : decode cM_draws 4 = .ok (.istore 7, 2) := by decide +kernel
theorem dM_draws_6 : decode cM_draws 6 = .ok (.iload 7, 2) := by decide +kernel
theorem dM_draws_8 : decode cM_draws 8 = .ok (.aload_n 0, 1) := by decide +kernel
theorem dM_draws_9 : decode cM_draws 9 = .ok (.getfield 7, 3) := by decide +kernel
theorem dM_draws_12 : decode cM_draws 12 = .ok (.iload_n 1, 1) := by decide +kernel
theorem dM_draws_13 : decode cM_draws 13 = .ok (.iaload, 1) := by decide +kernel
theorem dM_draws_14 : decode cM_draws 14 = .ok (.if_icmp .ge 101, 3) := by decide +kernel
theorem dM_draws_17 : decode cM_draws 17 = .ok (.iload_n 2, 1) := by decide +kernel
theorem dM_draws_18 : decode cM_draws 18 = .ok (.iload 7, 2) := by decide +kernel
theorem dM_draws_20 : decode cM_draws 20 = .ok (.ishr, 1) := by decide +kernel
theorem dM_draws_21 : decode cM_draws 21 = .ok (.iconst 1, 1) := by decide +kernel
theorem dM_draws_22 : decode cM_draws 22 = .ok (.iand, 1) := by decide +kernel
theorem dM_draws_23 : decode cM_draws 23 = .ok (.istore 8, 2) := by decide +kernel
theorem dM_draws_25 : decode cM_draws 25 = .ok (.aload_n 0, 1) := by decide +kernel
theorem dM_draws_26 : decode cM_draws 26 = .ok (.getfield 16, 3) := by decide +kernel
theorem dM_draws_29 : decode cM_draws 29 = .ok (.bipush 6, 2) := by decide +kernel
theorem dM_draws_31 : decode cM_draws 31 = .ok (.iload_n 1, 1) := by decide +kernel
theorem dM_draws_32 : decode cM_draws 32 = .ok (.imul, 1) := by decide +kernel
theorem dM_draws_33 : decode cM_draws 33 = .ok (.iload 7, 2) := by decide +kernel
theorem dM_draws_35 : decode cM_draws 35 = .ok (.iadd, 1) := by decide +kernel
theorem dM_draws_36 : decode cM_draws 36 = .ok (.bipush 64, 2) := by decide +kernel
theorem dM_draws_38 : decode cM_draws 38 = .ok (.imul, 1) := by decide +kernel
theorem dM_draws_39 : decode cM_draws 39 = .ok (.iload_n 2, 1) := by decide +kernel
theorem dM_draws_40 : decode cM_draws 40 = .ok (.aload_n 0, 1) := by decide +kernel
theorem dM_draws_41 : decode cM_draws 41 = .ok (.getfield 13, 3) := by decide +kernel
theorem dM_draws_44 : decode cM_draws 44 = .ok (.bipush 6, 2) := by decide +kernel
theorem dM_draws_46 : decode cM_draws 46 = .ok (.iload_n 1, 1) := by decide +kernel
theorem dM_draws_47 : decode cM_draws 47 = .ok (.imul, 1) := by decide +kernel
theorem dM_draws_48 : decode cM_draws 48 = .ok (.iload 7, 2) := by decide +kernel
theorem dM_draws_50 : decode cM_draws 50 = .ok (.iadd, 1) := by decide +kernel
theorem dM_draws_51 : decode cM_draws 51 = .ok (.iaload, 1) := by decide +kernel
theorem dM_draws_52 : decode cM_draws 52 = .ok (.iand, 1) := by decide +kernel
theorem dM_draws_53 : decode cM_draws 53 = .ok (.iadd, 1) := by decide +kernel
theorem dM_draws_54 : decode cM_draws 54 = .ok (.iaload, 1) := by decide +kernel
theorem dM_draws_55 : decode cM_draws 55 = .ok (.istore 9, 2) := by decide +kernel
theorem dM_draws_57 : decode cM_draws 57 = .ok (.lload 5, 2) := by decide +kernel
theorem dM_draws_59 : decode cM_draws 59 = .ok (.iload_n 3, 1) := by decide +kernel
theorem dM_draws_60 : decode cM_draws 60 = .ok (.iload 7, 2) := by decide +kernel
theorem dM_draws_62 : decode cM_draws 62 = .ok (.invokestatic 62, 3) := by decide +kernel
theorem dM_draws_65 : decode cM_draws 65 = .ok (.ifCond .eq 24, 3) := by decide +kernel
theorem dM_draws_68 : decode cM_draws 68 = .ok (.iload 8, 2) := by decide +kernel
theorem dM_draws_70 : decode cM_draws 70 = .ok (.iload 4, 2) := by decide +kernel
theorem dM_draws_72 : decode cM_draws 72 = .ok (.iload 7, 2) := by decide +kernel
theorem dM_draws_74 : decode cM_draws 74 = .ok (.ishr, 1) := by decide +kernel
theorem dM_draws_75 : decode cM_draws 75 = .ok (.iconst 1, 1) := by decide +kernel
theorem dM_draws_76 : decode cM_draws 76 = .ok (.iand, 1) := by decide +kernel
theorem dM_draws_77 : decode cM_draws 77 = .ok (.if_icmp .ne 8, 3) := by decide +kernel
theorem dM_draws_80 : decode cM_draws 80 = .ok (.bipush 16, 2) := by decide +kernel
theorem dM_draws_82 : decode cM_draws 82 = .ok (.goto 23, 3) := by decide +kernel
theorem dM_draws_85 : decode cM_draws 85 = .ok (.iconst 0, 1) := by decide +kernel
theorem dM_draws_86 : decode cM_draws 86 = .ok (.goto 19, 3) := by decide +kernel
theorem dM_draws_89 : decode cM_draws 89 = .ok (.iload 8, 2) := by decide +kernel
theorem dM_draws_91 : decode cM_draws 91 = .ok (.iconst 1, 1) := by decide +kernel
theorem dM_draws_92 : decode cM_draws 92 = .ok (.if_icmp .ne 8, 3) := by decide +kernel
theorem dM_draws_95 : decode cM_draws 95 = .ok (.iload 9, 2) := by decide +kernel
theorem dM_draws_97 : decode cM_draws 97 = .ok (.goto 8, 3) := by decide +kernel
theorem dM_draws_100 : decode cM_draws 100 = .ok (.bipush 16, 2) := by decide +kernel
theorem dM_draws_102 : decode cM_draws 102 = .ok (.iload 9, 2) := by decide +kernel
theorem dM_draws_104 : decode cM_draws 104 = .ok (.isub, 1) := by decide +kernel
theorem dM_draws_105 : decode cM_draws 105 = .ok (.i2l, 1) := by decide +kernel
theorem dM_draws_106 : decode cM_draws 106 = .ok (.lmul, 1) := by decide +kernel
theorem dM_draws_107 : decode cM_draws 107 = .ok (.lstore 5, 2) := by decide +kernel
theorem dM_draws_109 : decode cM_draws 109 = .ok (.iinc 7 1, 3) := by decide +kernel
theorem dM_draws_112 : decode cM_draws 112 = .ok (.goto (-106), 3) := by decide +kernel
theorem dM_draws_115 : decode cM_draws 115 = .ok (.lload 5, 2) := by decide +kernel
theorem dM_draws_117 : decode cM_draws 117 = .ok (.lreturn, 1) := by decide +kernel
def fM_draws_6 (w : x_W) : Nat → Nat → Int32 → Int32 → Int32 → Int32 → Int64 → Int32 → Option Int64
  | 0, _, _, _, _, _, _, _ => none
  | n + 1, v0, v1, v2, v3, v4, v5, v7 =>
    (x_fr w v0 5 0).bind fun t1 =>
    (x_ai w t1 v1).bind fun t2 =>
    if t2 ≤ v7 then
      some v5
    else
      (x_fr w v0 5 2).bind fun t4 =>
      (x_fr w v0 5 1).bind fun t5 =>
      (x_ai w t5 (((6 : Int32) * v1) + v7)).bind fun t6 =>
      (x_ai w t4 (((((6 : Int32) * v1) + v7) * (64 : Int32)) + (v2 &&& t6))).bind fun t7 =>
      if (fM_has v3 v7) = (0 : Int32) then
        if ((v2 >>> (v7 &&& 31)) &&& (1 : Int32)) = (1 : Int32) then
          fM_draws_6 w n v0 v1 v2 v3 v4 (v5 * t7.toInt64) (v7 + (1 : Int32))
        else
          fM_draws_6 w n v0 v1 v2 v3 v4 (v5 * ((16 : Int32) - t7).toInt64) (v7 + (1 : Int32))
      else
        if ((v2 >>> (v7 &&& 31)) &&& (1 : Int32)) = ((v4 >>> (v7 &&& 31)) &&& (1 : Int32)) then
          fM_draws_6 w n v0 v1 v2 v3 v4 (v5 * (16 : Int32).toInt64) (v7 + (1 : Int32))
        else
          fM_draws_6 w n v0 v1 v2 v3 v4 (v5 * (0 : Int32).toInt64) (v7 + (1 : Int32))
def fM_draws (w : x_W) (v0 : Nat) (v1 : Int32) (v2 : Int32) (v3 : Int32) (v4 : Int32) : Option Int64 :=
  fM_draws_6 w x_F v0 v1 v2 v3 v4 (1 : Int64) (0 : Int32)
set_option maxHeartbeats 4000000 in
set_option maxRecDepth 100000 in
theorem lM_draws_6 (d : Nat) (hd : 2 ≤ d) {K : Option Value → x_W → Prop} {r : Int64} {w : x_W} (hK : K (some (.long r)) w) : ∀ (n : Nat) (v0 : Nat) (v1 : Int32) (v2 : Int32) (v3 : Int32) (v4 : Int32) (v5 : Int64) (v7 : Int32), fM_draws_6 w n v0 v1 v2 v3 v4 v5 v7 = some r → x_G none yM_draws cM_draws 10 (some .long) (x_room d 0 0) (x_QM K 0 0) 6 [some (.ref v0), some (.int v1), some (.int v2), some (.int v3), some (.int v4), some (.long v5), none, some (.int v7), none, none] [] w 0 0 := by
  intro n
  induction n with
  | zero => intro v0 v1 v2 v3 v4 v5 v7 h; rw [fM_draws_6] at h; cases h
  | succ n ih =>
    intro v0 v1 v2 v3 v4 v5 v7 h
    rw [fM_draws_6] at h
    refine g_iload 8 dM_draws_6 rfl rfl ?_
    refine g_aload_n 9 (i := 0) dM_draws_8 rfl rfl rfl ?_
    obtain ⟨t1, e1, h⟩ := x_bind h
    refine g_getfR 12 5 0 dM_draws_9 rfl x_in5 tw_2_235 rfl (by decide) e1 ?_
    refine g_iload_n 13 (i := 1) dM_draws_12 rfl rfl rfl ?_
    obtain ⟨t2, e2, h⟩ := x_bind h
    refine g_iald 14 dM_draws_13 rfl e2 ?_
    by_cases c3 : t2 ≤ v7
    · rw [if_pos c3] at h
      refine g_icmp_ge_t 115 dM_draws_14 (by decide) c3 ?_
      refine g_lload 117 dM_draws_115 rfl rfl ?_
      obtain rfl := Option.some.inj h
      exact g_lret rfl dM_draws_117 hK
    · rw [if_neg c3] at h
      refine g_icmp_ge_f 17 115 dM_draws_14 (by decide) rfl c3 ?_
      refine g_iload_n 18 (i := 2) dM_draws_17 rfl rfl rfl ?_
      refine g_iload 20 dM_draws_18 rfl rfl ?_
      refine g_ishr 21 dM_draws_20 rfl ?_
      refine g_iconst 22 (1 : Int32) dM_draws_21 rfl (by decide) ?_
      refine g_iand 23 dM_draws_22 rfl ?_
      refine g_istore 25 [some (.ref v0), some (.int v1), some (.int v2), some (.int v3), some (.int v4), some (.long v5), none, some (.int v7), some (.int ((v2 >>> (v7 &&& 31)) &&& (1 : Int32))), none] dM_draws_23 rfl rfl (by decide) ?_
      refine g_aload_n 26 (i := 0) dM_draws_25 rfl rfl rfl ?_
      obtain ⟨t4, e4, h⟩ := x_bind h
      refine g_getfR 29 5 2 dM_draws_26 rfl x_in5 tw_2_237 rfl (by decide) e4 ?_
      refine g_bipush 31 (6 : Int32) dM_draws_29 rfl (by decide) ?_
      refine g_iload_n 32 (i := 1) dM_draws_31 rfl rfl rfl ?_
      refine g_imul 33 dM_draws_32 rfl ?_
      refine g_iload 35 dM_draws_33 rfl rfl ?_
      refine g_iadd 36 dM_draws_35 rfl ?_
      refine g_bipush 38 (64 : Int32) dM_draws_36 rfl (by decide) ?_
      refine g_imul 39 dM_draws_38 rfl ?_
      refine g_iload_n 40 (i := 2) dM_draws_39 rfl rfl rfl ?_
      refine g_aload_n 41 (i := 0) dM_draws_40 rfl rfl rfl ?_
      obtain ⟨t5, e5, h⟩ := x_bind h
      refine g_getfR 44 5 1 dM_draws_41 rfl x_in5 tw_2_236 rfl (by decide) e5 ?_
      refine g_bipush 46 (6 : Int32) dM_draws_44 rfl (by decide) ?_
      refine g_iload_n 47 (i := 1) dM_draws_46 rfl rfl rfl ?_
      refine g_imul 48 dM_draws_47 rfl ?_
      refine g_iload 50 dM_draws_48 rfl rfl ?_
      refine g_iadd 51 dM_draws_50 rfl ?_
      obtain ⟨t6, e6, h⟩ := x_bind h
      refine g_iald 52 dM_draws_51 rfl e6 ?_
      refine g_iand 53 dM_draws_52 rfl ?_
      refine g_iadd 54 dM_draws_53 rfl ?_
      obtain ⟨t7, e7, h⟩ := x_bind h
      refine g_iald 55 dM_draws_54 rfl e7 ?_
      refine g_istore 57 [some (.ref v0), some (.int v1), some (.int v2), some (.int v3), some (.int v4), some (.long v5), none, some (.int v7), some (.int ((v2 >>> (v7 &&& 31)) &&& (1 : Int32))), some (.int t7)] dM_draws_55 rfl rfl (by decide) ?_
      refine g_lload 59 dM_draws_57 rfl rfl ?_
      refine g_iload_n 60 (i := 3) dM_draws_59 rfl rfl rfl ?_
      refine g_iload 62 dM_draws_60 rfl rfl ?_
      refine g_cS 65 (some (.int (fM_has v3 v7))) w [.int v3, .int v7] [.long v5] dM_draws_62 rfl (fun _ hK2 => mM_has (d - 1) (by omega) rfl hK2) kM_62 (x_rm (Nat.le_trans (by decide) hd) (by decide)) ⟨Nat.zero_le _, Nat.zero_le _⟩ (Nat.le_of_ble_eq_true rfl) rfl ?_
      by_cases c8 : (fM_has v3 v7) = (0 : Int32)
      · rw [if_pos c8] at h
        refine g_if_eq_t 89 dM_draws_65 (by decide) c8 ?_
        refine g_iload 91 dM_draws_89 rfl rfl ?_
        refine g_iconst 92 (1 : Int32) dM_draws_91 rfl (by decide) ?_
        by_cases c9 : ((v2 >>> (v7 &&& 31)) &&& (1 : Int32)) = (1 : Int32)
        · rw [if_pos c9] at h
          refine g_icmp_ne_f 95 100 dM_draws_92 (by decide) rfl c9 ?_
          refine g_iload 97 dM_draws_95 rfl rfl ?_
          refine g_goto 105 dM_draws_97 (by decide) ?_
          refine g_i2l 106 dM_draws_105 rfl ?_
          refine g_lmul 107 dM_draws_106 rfl ?_
          refine g_lstore 109 [some (.ref v0), some (.int v1), some (.int v2), some (.int v3), some (.int v4), some (.long (v5 * t7.toInt64)), none, some (.int v7), some (.int ((v2 >>> (v7 &&& 31)) &&& (1 : Int32))), some (.int t7)] dM_draws_107 rfl rfl (by decide) ?_
          refine g_iinc 112 [some (.ref v0), some (.int v1), some (.int v2), some (.int v3), some (.int v4), some (.long (v5 * t7.toInt64)), none, some (.int (v7 + (1 : Int32))), some (.int ((v2 >>> (v7 &&& 31)) &&& (1 : Int32))), some (.int t7)] dM_draws_109 rfl rfl (x_inc (1 : Int32) (by decide)) rfl (by decide) ?_
          refine g_goto 6 dM_draws_112 (by decide) ?_
          refine g_less [some (.ref v0), some (.int v1), some (.int v2), some (.int v3), some (.int v4), some (.long (v5 * t7.toInt64)), none, some (.int (v7 + (1 : Int32))), none, none] ⟨rfl, rfl, rfl, rfl, rfl, rfl, rfl, trivial⟩ ?_
          exact ih _ _ _ _ _ _ _ h
        · rw [if_neg c9] at h
          refine g_icmp_ne_t 100 dM_draws_92 (by decide) c9 ?_
          refine g_bipush 102 (16 : Int32) dM_draws_100 rfl (by decide) ?_
          refine g_iload 104 dM_draws_102 rfl rfl ?_
          refine g_isub 105 dM_draws_104 rfl ?_
          refine g_i2l 106 dM_draws_105 rfl ?_
          refine g_lmul 107 dM_draws_106 rfl ?_
          refine g_lstore 109 [some (.ref v0), some (.int v1), some (.int v2), some (.int v3), some (.int v4), some (.long (v5 * ((16 : Int32) - t7).toInt64)), none, some (.int v7), some (.int ((v2 >>> (v7 &&& 31)) &&& (1 : Int32))), some (.int t7)] dM_draws_107 rfl rfl (by decide) ?_
          refine g_iinc 112 [some (.ref v0), some (.int v1), some (.int v2), some (.int v3), some (.int v4), some (.long (v5 * ((16 : Int32) - t7).toInt64)), none, some (.int (v7 + (1 : Int32))), some (.int ((v2 >>> (v7 &&& 31)) &&& (1 : Int32))), some (.int t7)] dM_draws_109 rfl rfl (x_inc (1 : Int32) (by decide)) rfl (by decide) ?_
          refine g_goto 6 dM_draws_112 (by decide) ?_
          refine g_less [some (.ref v0), some (.int v1), some (.int v2), some (.int v3), some (.int v4), some (.long (v5 * ((16 : Int32) - t7).toInt64)), none, some (.int (v7 + (1 : Int32))), none, none] ⟨rfl, rfl, rfl, rfl, rfl, rfl, rfl, trivial⟩ ?_
          exact ih _ _ _ _ _ _ _ h
      · rw [if_neg c8] at h
        refine g_if_eq_f 68 89 dM_draws_65 (by decide) rfl c8 ?_
        refine g_iload 70 dM_draws_68 rfl rfl ?_
        refine g_iload 72 dM_draws_70 rfl rfl ?_
        refine g_iload 74 dM_draws_72 rfl rfl ?_
        refine g_ishr 75 dM_draws_74 rfl ?_
        refine g_iconst 76 (1 : Int32) dM_draws_75 rfl (by decide) ?_
        refine g_iand 77 dM_draws_76 rfl ?_
        by_cases c10 : ((v2 >>> (v7 &&& 31)) &&& (1 : Int32)) = ((v4 >>> (v7 &&& 31)) &&& (1 : Int32))
        · rw [if_pos c10] at h
          refine g_icmp_ne_f 80 85 dM_draws_77 (by decide) rfl c10 ?_
          refine g_bipush 82 (16 : Int32) dM_draws_80 rfl (by decide) ?_
          refine g_goto 105 dM_draws_82 (by decide) ?_
          refine g_i2l 106 dM_draws_105 rfl ?_
          refine g_lmul 107 dM_draws_106 rfl ?_
          refine g_lstore 109 [some (.ref v0), some (.int v1), some (.int v2), some (.int v3), some (.int v4), some (.long (v5 * (16 : Int32).toInt64)), none, some (.int v7), some (.int ((v2 >>> (v7 &&& 31)) &&& (1 : Int32))), some (.int t7)] dM_draws_107 rfl rfl (by decide) ?_
          refine g_iinc 112 [some (.ref v0), some (.int v1), some (.int v2), some (.int v3), some (.int v4), some (.long (v5 * (16 : Int32).toInt64)), none, some (.int (v7 + (1 : Int32))), some (.int ((v2 >>> (v7 &&& 31)) &&& (1 : Int32))), some (.int t7)] dM_draws_109 rfl rfl (x_inc (1 : Int32) (by decide)) rfl (by decide) ?_
          refine g_goto 6 dM_draws_112 (by decide) ?_
          refine g_less [some (.ref v0), some (.int v1), some (.int v2), some (.int v3), some (.int v4), some (.long (v5 * (16 : Int32).toInt64)), none, some (.int (v7 + (1 : Int32))), none, none] ⟨rfl, rfl, rfl, rfl, rfl, rfl, rfl, trivial⟩ ?_
          exact ih _ _ _ _ _ _ _ h
        · rw [if_neg c10] at h
          refine g_icmp_ne_t 85 dM_draws_77 (by decide) c10 ?_
          refine g_iconst 86 (0 : Int32) dM_draws_85 rfl (by decide) ?_
          refine g_goto 105 dM_draws_86 (by decide) ?_
          refine g_i2l 106 dM_draws_105 rfl ?_
          refine g_lmul 107 dM_draws_106 rfl ?_
          refine g_lstore 109 [some (.ref v0), some (.int v1), some (.int v2), some (.int v3), some (.int v4), some (.long (v5 * (0 : Int32).toInt64)), none, some (.int v7), some (.int ((v2 >>> (v7 &&& 31)) &&& (1 : Int32))), some (.int t7)] dM_draws_107 rfl rfl (by decide) ?_
          refine g_iinc 112 [some (.ref v0), some (.int v1), some (.int v2), some (.int v3), some (.int v4), some (.long (v5 * (0 : Int32).toInt64)), none, some (.int (v7 + (1 : Int32))), some (.int ((v2 >>> (v7 &&& 31)) &&& (1 : Int32))), some (.int t7)] dM_draws_109 rfl rfl (x_inc (1 : Int32) (by decide)) rfl (by decide) ?_
          refine g_goto 6 dM_draws_112 (by decide) ?_
          refine g_less [some (.ref v0), some (.int v1), some (.int v2), some (.int v3), some (.int v4), some (.long (v5 * (0 : Int32).toInt64)), none, some (.int (v7 + (1 : Int32))), none, none] ⟨rfl, rfl, rfl, rfl, rfl, rfl, rfl, trivial⟩ ?_
          exact ih _ _ _ _ _ _ _ h
set_option maxHeartbeats 4000000 in
set_option maxRecDepth 100000 in
theorem mM_draws (d : Nat) (hd : 2 ≤ d) {K : Option Value → x_W → Prop} {w : x_W} {v0 : Nat} {v1 : Int32} {v2 : Int32} {v3 : Int32} {v4 : Int32} {r : Int64} (h : fM_draws w v0 v1 v2 v3 v4 = some r) (hK : K (some (.long r)) w) : x_M yM_draws cM_draws 10 (some .long) d 0 0 [.ref v0, .int v1, .int v2, .int v3, .int v4] w K := by
  refine x_M.of [some (.ref v0), some (.int v1), some (.int v2), some (.int v3), some (.int v4), none, none, none, none, none] (by decide) rfl (Nat.le_of_ble_eq_true rfl) ?_
  unfold fM_draws at h
  refine g_lconst 1 (1 : Int64) dM_draws_0 rfl (by decide) ?_
  refine g_lstore 3 [some (.ref v0), some (.int v1), some (.int v2), some (.int v3), some (.int v4), some (.long (1 : Int64)), none, none, none, none] dM_draws_1 rfl rfl (by decide) ?_
  refine g_iconst 4 (0 : Int32) dM_draws_3 rfl (by decide) ?_
  refine g_istore 6 [some (.ref v0), some (.int v1), some (.int v2), some (.int v3), some (.int v4), some (.long (1 : Int64)), none, some (.int (0 : Int32)), none, none] dM_draws_4 rfl rfl (by decide) ?_
  exact lM_draws_6 d hd hK x_F _ _ _ _ _ _ _ h
