/-! ActSurgeryModel.telling(III)I: level X -/
theorem dM_telling_0 : decode cM_telling 0 = .ok (.aload_n 0, 1) := by decide +kernel
theorem dM_telling_1 : decode cM_telling 1 = .ok (.iload_n 1, 1) := by decide +kernel
theorem dM_telling_2 : decode cM_telling 2 = .ok (.iload_n 2, 1) := by decide +kernel
theorem dM_telling_3 : decode cM_telling 3 = .ok (.iload_n 3, 1) := by decide +kernel
theorem dM_telling_4 : decode cM_telling 4 = .ok (.invokevirtual 115, 3) := by decide +kernel
theorem dM_telling_7 : decode cM_telling 7 = .ok (.ifCond .ne 6, 3) := by decide +kernel
theorem dM_telling_10 : decode cM_telling 10 = .ok (.bipush (-2), 2) := by decide +kernel
theorem dM_telling_12 : decode cM_telling 12 = .ok (.ireturn, 1) := by decide +kernel
theorem dM_telling_13 : decode cM_telling 13 = .ok (.iconst (-1), 1) := by decide +kernel
theorem dM_telling_14 : decode cM_telling 14 = .ok (.istore 4, 2) := by decide +kernel
theorem dM_telling_16 : decode cM_telling 16 = .ok (.iconst 0, 1) := by decide +kernel
theorem dM_telling_17 : decode cM_telling 17 = .ok (.istore 5, 2) := by decide +kernel
theorem dM_telling_19 : decode cM_telling 19 = .ok (.iload 5, 2) := by decide +kernel
theorem dM_telling_21 : decode cM_telling 21 = .ok (.aload_n 0, 1) := by decide +kernel
theorem dM_telling_22 : decode cM_telling 22 = .ok (.invokevirtual 52, 3) := by decide +kernel
theorem dM_telling_25 : decode cM_telling 25 = .ok (.if_icmp .gt 55, 3) := by decide +kernel
theorem dM_telling_28 : decode cM_telling 28 = .ok (.aload_n 0, 1) := by decide +kernel
theorem dM_telling_29 : decode cM_telling 29 = .ok (.iload_n 2, 1) := by decide +kernel
theorem dM_telling_30 : decode cM_telling 30 = .ok (.iload_n 3, 1) := by decide +kernel
theorem dM_telling_31 : decode cM_telling 31 = .ok (.iload 5, 2) := by decide +kernel
theorem dM_telling_33 : decode cM_telling 33 = .ok (.invokevirtual 118, 3) := by decide +kernel
theorem dM_telling_36 : decode cM_telling 36 = .ok (.ifCond .eq 38, 3) := by decide +kernel
theorem dM_telling_39 : decode cM_telling 39 = .ok (.iload 4, 2) := by decide +kernel
theorem dM_telling_41 : decode cM_telling 41 = .ok (.iconst (-1), 1) := by decide +kernel
theorem dM_telling_42 : decode cM_telling 42 = .ok (.if_icmp .eq 16, 3) := by decide +kernel
theorem dM_telling_45 : decode cM_telling 45 = .ok (.iload 5, 2) := by decide +kernel
theorem dM_telling_47 : decode cM_telling 47 = .ok (.invokestatic 97, 3) := by decide +kernel
theorem dM_telling_50 : decode cM_telling 50 = .ok (.iload 4, 2) := by decide +kernel
theorem dM_telling_52 : decode cM_telling 52 = .ok (.invokestatic 97, 3) := by decide +kernel
theorem dM_telling_55 : decode cM_telling 55 = .ok (.if_icmp .ge 19, 3) := by decide +kernel
theorem dM_telling_58 : decode cM_telling 58 = .ok (.aload_n 0, 1) := by decide +kernel
theorem dM_telling_59 : decode cM_telling 59 = .ok (.iload_n 1, 1) := by decide +kernel
theorem dM_telling_60 : decode cM_telling 60 = .ok (.iload_n 2, 1) := by decide +kernel
theorem dM_telling_61 : decode cM_telling 61 = .ok (.iload_n 3, 1) := by decide +kernel
theorem dM_telling_62 : decode cM_telling 62 = .ok (.iload 5, 2) := by decide +kernel
theorem dM_telling_64 : decode cM_telling 64 = .ok (.invokevirtual 121, 3) := by decide +kernel
theorem dM_telling_67 : decode cM_telling 67 = .ok (.ifCond .eq 7, 3) := by decide +kernel
theorem dM_telling_70 : decode cM_telling 70 = .ok (.iload 5, 2) := by decide +kernel
theorem dM_telling_72 : decode cM_telling 72 = .ok (.istore 4, 2) := by decide +kernel
theorem dM_telling_74 : decode cM_telling 74 = .ok (.iinc 5 1, 3) := by decide +kernel
theorem dM_telling_77 : decode cM_telling 77 = .ok (.goto (-58), 3) := by decide +kernel
theorem dM_telling_80 : decode cM_telling 80 = .ok (.iload 4, 2) := by decide +kernel
theorem dM_telling_82 : decode cM_telling 82 = .ok (.ireturn, 1) := by decide +kernel
def fM_telling_19  : Nat → x_W → Nat → Int32 → Int32 → Int32 → Int32 → Int32 → Option (Int32 × x_W)
  | 0, _, _, _, _, _, _, _ => none
  | n + 1, w, v0, v1, v2, v3, v4, v5 =>
    (x_ob w v0 5).bind fun _ =>
    (fM_all w v0).bind fun t2 =>
    if t2 < v5 then
      some (v4, w)
    else
      (fM_isSeenSet w v0 v2 v3 v5).bind fun t4 =>
      if t4 = (0 : Int32) then
        fM_telling_19 n w v0 v1 v2 v3 v4 (v5 + (1 : Int32))
      else
        if v4 = (-1 : Int32) then
          (fM_isTelling w v0 v1 v2 v3 v5).bind fun q7 =>
          if q7.1 = (0 : Int32) then
            fM_telling_19 n q7.2 v0 v1 v2 v3 v4 (v5 + (1 : Int32))
          else
            fM_telling_19 n q7.2 v0 v1 v2 v3 v5 (v5 + (1 : Int32))
        else
          (fM_ones v5).bind fun t9 =>
          (fM_ones v4).bind fun t10 =>
          if t10 ≤ t9 then
            fM_telling_19 n w v0 v1 v2 v3 v4 (v5 + (1 : Int32))
          else
            (fM_isTelling w v0 v1 v2 v3 v5).bind fun q12 =>
            if q12.1 = (0 : Int32) then
              fM_telling_19 n q12.2 v0 v1 v2 v3 v4 (v5 + (1 : Int32))
            else
              fM_telling_19 n q12.2 v0 v1 v2 v3 v5 (v5 + (1 : Int32))
def fM_telling  (w : x_W) (v0 : Nat) (v1 : Int32) (v2 : Int32) (v3 : Int32) : Option (Int32 × x_W) :=
  (x_ob w v0 5).bind fun _ =>
  (fM_isSeenPair w v0 v1 v2 v3).bind fun t2 =>
  if t2 = (0 : Int32) then
    some ((-2 : Int32), w)
  else
    fM_telling_19 x_F w v0 v1 v2 v3 (-1 : Int32) (0 : Int32)
set_option maxHeartbeats 4000000 in
set_option maxRecDepth 100000 in
theorem lM_telling_19 (d : Nat) (hd : 10 ≤ d) {K : Option Value → x_W → Prop} {r : (Int32 × x_W)} (hK : K (some (.int r.1)) r.2) : ∀ (n : Nat) (w : x_W) (v0 : Nat) (v1 : Int32) (v2 : Int32) (v3 : Int32) (v4 : Int32) (v5 : Int32), fM_telling_19 n w v0 v1 v2 v3 v4 v5 = some r → x_G none yM_telling cM_telling 6 (some .int) (x_room d 0 0) (x_QM K 0 0) 19 [some (.ref v0), some (.int v1), some (.int v2), some (.int v3), some (.int v4), some (.int v5)] [] w 0 0 := by
  intro n
  induction n with
  | zero => intro w v0 v1 v2 v3 v4 v5 h; rw [fM_telling_19] at h; cases h
  | succ n ih =>
    intro w v0 v1 v2 v3 v4 v5 h
    rw [fM_telling_19] at h
    refine g_iload 21 dM_telling_19 rfl rfl ?_
    refine g_aload_n 22 (i := 0) dM_telling_21 rfl rfl rfl ?_
    obtain ⟨_, e1, h⟩ := x_bind h
    obtain ⟨t2, e2, h⟩ := x_bind h
    refine g_cV 25 (some (.int t2)) w [] [.int v5] dM_telling_22 rfl (fun _ hK2 => mM_all (d - 1) (by omega) e2 hK2) (x_ob_some e1) kM_52 (x_rm (Nat.le_trans (by decide) hd) (by decide)) ⟨Nat.zero_le _, Nat.zero_le _⟩ (Nat.le_of_ble_eq_true rfl) rfl ?_
    by_cases c3 : t2 < v5
    · rw [if_pos c3] at h
      refine g_icmp_gt_t 80 dM_telling_25 (by decide) c3 ?_
      refine g_iload 82 dM_telling_80 rfl rfl ?_
      obtain rfl := Option.some.inj h
      exact g_iret rfl dM_telling_82 hK
    · rw [if_neg c3] at h
      refine g_icmp_gt_f 28 80 dM_telling_25 (by decide) rfl c3 ?_
      refine g_aload_n 29 (i := 0) dM_telling_28 rfl rfl rfl ?_
      refine g_iload_n 30 (i := 2) dM_telling_29 rfl rfl rfl ?_
      refine g_iload_n 31 (i := 3) dM_telling_30 rfl rfl rfl ?_
      refine g_iload 33 dM_telling_31 rfl rfl ?_
      obtain ⟨t4, e4, h⟩ := x_bind h
      refine g_cV 36 (some (.int t4)) w [.int v2, .int v3, .int v5] [] dM_telling_33 rfl (fun _ hK2 => mM_isSeenSet (d - 1) (by omega) e4 hK2) (x_ob_some e1) kM_118 (x_rm (Nat.le_trans (by decide) hd) (by decide)) ⟨Nat.zero_le _, Nat.zero_le _⟩ (Nat.le_of_ble_eq_true rfl) rfl ?_
      by_cases c5 : t4 = (0 : Int32)
      · rw [if_pos c5] at h
        refine g_if_eq_t 74 dM_telling_36 (by decide) c5 ?_
        refine g_iinc 77 [some (.ref v0), some (.int v1), some (.int v2), some (.int v3), some (.int v4), some (.int (v5 + (1 : Int32)))] dM_telling_74 rfl rfl (x_inc (1 : Int32) (by decide)) rfl (by decide) ?_
        refine g_goto 19 dM_telling_77 (by decide) ?_
        exact ih _ _ _ _ _ _ _ h
      · rw [if_neg c5] at h
        refine g_if_eq_f 39 74 dM_telling_36 (by decide) rfl c5 ?_
        refine g_iload 41 dM_telling_39 rfl rfl ?_
        refine g_iconst 42 (-1 : Int32) dM_telling_41 rfl (by decide) ?_
        by_cases c6 : v4 = (-1 : Int32)
        · rw [if_pos c6] at h
          refine g_icmp_eq_t 58 dM_telling_42 (by decide) c6 ?_
          refine g_aload_n 59 (i := 0) dM_telling_58 rfl rfl rfl ?_
          refine g_iload_n 60 (i := 1) dM_telling_59 rfl rfl rfl ?_
          refine g_iload_n 61 (i := 2) dM_telling_60 rfl rfl rfl ?_
          refine g_iload_n 62 (i := 3) dM_telling_61 rfl rfl rfl ?_
          refine g_iload 64 dM_telling_62 rfl rfl ?_
          obtain ⟨q7, e7, h⟩ := x_bind h
          refine g_cV 67 (some (.int q7.1)) q7.2 [.int v1, .int v2, .int v3, .int v5] [] dM_telling_64 rfl (fun _ hK2 => mM_isTelling (d - 1) (by omega) e7 hK2) (x_ob_some e1) kM_121 (x_rm (Nat.le_trans (by decide) hd) (by decide)) ⟨Nat.zero_le _, Nat.zero_le _⟩ (Nat.le_of_ble_eq_true rfl) rfl ?_
          by_cases c8 : q7.1 = (0 : Int32)
          · rw [if_pos c8] at h
            refine g_if_eq_t 74 dM_telling_67 (by decide) c8 ?_
            refine g_iinc 77 [some (.ref v0), some (.int v1), some (.int v2), some (.int v3), some (.int v4), some (.int (v5 + (1 : Int32)))] dM_telling_74 rfl rfl (x_inc (1 : Int32) (by decide)) rfl (by decide) ?_
            refine g_goto 19 dM_telling_77 (by decide) ?_
            exact ih _ _ _ _ _ _ _ h
          · rw [if_neg c8] at h
            refine g_if_eq_f 70 74 dM_telling_67 (by decide) rfl c8 ?_
            refine g_iload 72 dM_telling_70 rfl rfl ?_
            refine g_istore 74 [some (.ref v0), some (.int v1), some (.int v2), some (.int v3), some (.int v5), some (.int v5)] dM_telling_72 rfl rfl (by decide) ?_
            refine g_iinc 77 [some (.ref v0), some (.int v1), some (.int v2), some (.int v3), some (.int v5), some (.int (v5 + (1 : Int32)))] dM_telling_74 rfl rfl (x_inc (1 : Int32) (by decide)) rfl (by decide) ?_
            refine g_goto 19 dM_telling_77 (by decide) ?_
            exact ih _ _ _ _ _ _ _ h
        · rw [if_neg c6] at h
          refine g_icmp_eq_f 45 58 dM_telling_42 (by decide) rfl c6 ?_
          refine g_iload 47 dM_telling_45 rfl rfl ?_
          obtain ⟨t9, e9, h⟩ := x_bind h
          refine g_cS 50 (some (.int t9)) w [.int v5] [] dM_telling_47 rfl (fun _ hK2 => mM_ones (d - 1) (by omega) e9 hK2) kM_97 (x_rm (Nat.le_trans (by decide) hd) (by decide)) ⟨Nat.zero_le _, Nat.zero_le _⟩ (Nat.le_of_ble_eq_true rfl) rfl ?_
          refine g_iload 52 dM_telling_50 rfl rfl ?_
          obtain ⟨t10, e10, h⟩ := x_bind h
          refine g_cS 55 (some (.int t10)) w [.int v4] [.int t9] dM_telling_52 rfl (fun _ hK2 => mM_ones (d - 1) (by omega) e10 hK2) kM_97 (x_rm (Nat.le_trans (by decide) hd) (by decide)) ⟨Nat.zero_le _, Nat.zero_le _⟩ (Nat.le_of_ble_eq_true rfl) rfl ?_
          by_cases c11 : t10 ≤ t9
          · rw [if_pos c11] at h
            refine g_icmp_ge_t 74 dM_telling_55 (by decide) c11 ?_
            refine g_iinc 77 [some (.ref v0), some (.int v1), some (.int v2), some (.int v3), some (.int v4), some (.int (v5 + (1 : Int32)))] dM_telling_74 rfl rfl (x_inc (1 : Int32) (by decide)) rfl (by decide) ?_
            refine g_goto 19 dM_telling_77 (by decide) ?_
            exact ih _ _ _ _ _ _ _ h
          · rw [if_neg c11] at h
            refine g_icmp_ge_f 58 74 dM_telling_55 (by decide) rfl c11 ?_
            refine g_aload_n 59 (i := 0) dM_telling_58 rfl rfl rfl ?_
            refine g_iload_n 60 (i := 1) dM_telling_59 rfl rfl rfl ?_
            refine g_iload_n 61 (i := 2) dM_telling_60 rfl rfl rfl ?_
            refine g_iload_n 62 (i := 3) dM_telling_61 rfl rfl rfl ?_
            refine g_iload 64 dM_telling_62 rfl rfl ?_
            obtain ⟨q12, e12, h⟩ := x_bind h
            refine g_cV 67 (some (.int q12.1)) q12.2 [.int v1, .int v2, .int v3, .int v5] [] dM_telling_64 rfl (fun _ hK2 => mM_isTelling (d - 1) (by omega) e12 hK2) (x_ob_some e1) kM_121 (x_rm (Nat.le_trans (by decide) hd) (by decide)) ⟨Nat.zero_le _, Nat.zero_le _⟩ (Nat.le_of_ble_eq_true rfl) rfl ?_
            by_cases c13 : q12.1 = (0 : Int32)
            · rw [if_pos c13] at h
              refine g_if_eq_t 74 dM_telling_67 (by decide) c13 ?_
              refine g_iinc 77 [some (.ref v0), some (.int v1), some (.int v2), some (.int v3), some (.int v4), some (.int (v5 + (1 : Int32)))] dM_telling_74 rfl rfl (x_inc (1 : Int32) (by decide)) rfl (by decide) ?_
              refine g_goto 19 dM_telling_77 (by decide) ?_
              exact ih _ _ _ _ _ _ _ h
            · rw [if_neg c13] at h
              refine g_if_eq_f 70 74 dM_telling_67 (by decide) rfl c13 ?_
              refine g_iload 72 dM_telling_70 rfl rfl ?_
              refine g_istore 74 [some (.ref v0), some (.int v1), some (.int v2), some (.int v3), some (.int v5), some (.int v5)] dM_telling_72 rfl rfl (by decide) ?_
              refine g_iinc 77 [some (.ref v0), some (.int v1), some (.int v2), some (.int v3), some (.int v5), some (.int (v5 + (1 : Int32)))] dM_telling_74 rfl rfl (x_inc (1 : Int32) (by decide)) rfl (by decide) ?_
              refine g_goto 19 dM_telling_77 (by decide) ?_
              exact ih _ _ _ _ _ _ _ h
set_option maxHeartbeats 4000000 in
set_option maxRecDepth 100000 in
theorem mM_telling (d : Nat) (hd : 10 ≤ d) {K : Option Value → x_W → Prop} {w : x_W} {v0 : Nat} {v1 : Int32} {v2 : Int32} {v3 : Int32} {r : (Int32 × x_W)} (h : fM_telling w v0 v1 v2 v3 = some r) (hK : K (some (.int r.1)) r.2) : x_M yM_telling cM_telling 6 (some .int) d 0 0 [.ref v0, .int v1, .int v2, .int v3] w K := by
  refine x_M.of [some (.ref v0), some (.int v1), some (.int v2), some (.int v3), none, none] (by decide) rfl (Nat.le_of_ble_eq_true rfl) ?_
  unfold fM_telling at h
  refine g_aload_n 1 (i := 0) dM_telling_0 rfl rfl rfl ?_
  refine g_iload_n 2 (i := 1) dM_telling_1 rfl rfl rfl ?_
  refine g_iload_n 3 (i := 2) dM_telling_2 rfl rfl rfl ?_
  refine g_iload_n 4 (i := 3) dM_telling_3 rfl rfl rfl ?_
  obtain ⟨_, e1, h⟩ := x_bind h
  obtain ⟨t2, e2, h⟩ := x_bind h
  refine g_cV 7 (some (.int t2)) w [.int v1, .int v2, .int v3] [] dM_telling_4 rfl (fun _ hK2 => mM_isSeenPair (d - 1) (by omega) e2 hK2) (x_ob_some e1) kM_115 (x_rm (Nat.le_trans (by decide) hd) (by decide)) ⟨Nat.zero_le _, Nat.zero_le _⟩ (Nat.le_of_ble_eq_true rfl) rfl ?_
  by_cases c3 : t2 = (0 : Int32)
  · rw [if_pos c3] at h
    refine g_if_ne_f 10 13 dM_telling_7 (by decide) rfl c3 ?_
    refine g_bipush 12 (-2 : Int32) dM_telling_10 rfl (by decide) ?_
    obtain rfl := Option.some.inj h
    exact g_iret rfl dM_telling_12 hK
  · rw [if_neg c3] at h
    refine g_if_ne_t 13 dM_telling_7 (by decide) c3 ?_
    refine g_iconst 14 (-1 : Int32) dM_telling_13 rfl (by decide) ?_
    refine g_istore 16 [some (.ref v0), some (.int v1), some (.int v2), some (.int v3), some (.int (-1 : Int32)), none] dM_telling_14 rfl rfl (by decide) ?_
    refine g_iconst 17 (0 : Int32) dM_telling_16 rfl (by decide) ?_
    refine g_istore 19 [some (.ref v0), some (.int v1), some (.int v2), some (.int v3), some (.int (-1 : Int32)), some (.int (0 : Int32))] dM_telling_17 rfl rfl (by decide) ?_
    exact lM_telling_19 d hd hK x_F _ _ _ _ _ _ _ h
/-! ActSurgeryModel.isBound(II)Z: level X -/
theorem dM_isBound_0 : decode cM_isBound 0 = .ok (.aload_n 0, 1) := by decide +kernel
theorem dM_isBound_1 : decode cM_isBound 1 = .ok (.iconst 0, 1) := by decide +kernel
theorem dM_isBound_2 : decode cM_isBound 2 = .ok (.putfield 66, 3) := by decide +kernel
theorem dM_isBound_5 : decode cM_isBound 5 = .ok (.iconst 0, 1) := by decide +kernel
theorem dM_isBound_6 : decode cM_isBound 6 = .ok (.istore_n 3, 1) := by decide +kernel
theorem dM_isBound_7 : decode cM_isBound 7 = .ok (.iconst 0, 1) := by decide +kernel
theorem dM_isBound_8 : decode cM_isBound 8 = .ok (.istore 4, 2) := by decide +kernel
theorem dM_isBound_10 : decode cM_isBound 10 = .ok (.iload 4, 2) := by decide +kernel
theorem dM_isBound_12 : decode cM_isBound 12 = .ok (.aload_n 0, 1) := by decide +kernel
theorem dM_isBound_13 : decode cM_isBound 13 = .ok (.invokevirtual 44, 3) := by decide +kernel
theorem dM_isBound_16 : decode cM_isBound 16 = .ok (.if_icmp .ge 69, 3) := by decide +kernel
theorem dM_isBound_19 : decode cM_isBound 19 = .ok (.aload_n 0, 1) := by decide +kernel
theorem dM_isBound_20 : decode cM_isBound 20 = .ok (.getfield 19, 3) := by decide +kernel
theorem dM_isBound_23 : decode cM_isBound 23 = .ok (.iconst 0, 1) := by decide +kernel
theorem dM_isBound_24 : decode cM_isBound 24 = .ok (.iaload, 1) := by decide +kernel
theorem dM_isBound_25 : decode cM_isBound 25 = .ok (.iload 4, 2) := by decide +kernel
theorem dM_isBound_27 : decode cM_isBound 27 = .ok (.invokestatic 62, 3) := by decide +kernel
theorem dM_isBound_30 : decode cM_isBound 30 = .ok (.ifCond .eq 18, 3) := by decide +kernel
theorem dM_isBound_33 : decode cM_isBound 33 = .ok (.aload_n 0, 1) := by decide +kernel
theorem dM_isBound_34 : decode cM_isBound 34 = .ok (.iload 4, 2) := by decide +kernel
theorem dM_isBound_36 : decode cM_isBound 36 = .ok (.aload_n 0, 1) := by decide +kernel
theorem dM_isBound_37 : decode cM_isBound 37 = .ok (.getfield 19, 3) := by decide +kernel
theorem dM_isBound_40 : decode cM_isBound 40 = .ok (.iconst 0, 1) := by decide +kernel
theorem dM_isBound_41 : decode cM_isBound 41 = .ok (.iaload, 1) := by decide +kernel
theorem dM_isBound_42 : decode cM_isBound 42 = .ok (.invokevirtual 77, 3) := by decide +kernel
theorem dM_isBound_45 : decode cM_isBound 45 = .ok (.goto 4, 3) := by decide +kernel
theorem dM_isBound_48 : decode cM_isBound 48 = .ok (.iconst 0, 1) := by decide +kernel
theorem dM_isBound_49 : decode cM_isBound 49 = .ok (.istore 5, 2) := by decide +kernel
theorem dM_isBound_51 : decode cM_isBound 51 = .ok (.iload_n 3, 1) := by decide +kernel
theorem dM_isBound_52 : decode cM_isBound 52 = .ok (.ifCond .ne 21, 3) := by decide +kernel
theorem dM_isBound_55 : decode cM_isBound 55 = .ok (.iload 5, 2) := by decide +kernel
theorem dM_isBound_57 : decode cM_isBound 57 = .ok (.iload_n 1, 1) := by decide +kernel
theorem dM_isBound_58 : decode cM_isBound 58 = .ok (.invokestatic 62, 3) := by decide +kernel
theorem dM_isBound_61 : decode cM_isBound 61 = .ok (.ifCond .eq 16, 3) := by decide +kernel
theorem dM_isBound_64 : decode cM_isBound 64 = .ok (.iload 5, 2) := by decide +kernel
theorem dM_isBound_66 : decode cM_isBound 66 = .ok (.iload_n 2, 1) := by decide +kernel
theorem dM_isBound_67 : decode cM_isBound 67 = .ok (.invokestatic 62, 3) := by decide +kernel
theorem dM_isBound_70 : decode cM_isBound 70 = .ok (.ifCond .eq 7, 3) := by decide +kernel
theorem dM_isBound_73 : decode cM_isBound 73 = .ok (.iconst 1, 1) := by decide +kernel
theorem dM_isBound_74 : decode cM_isBound 74 = .ok (.goto 4, 3) := by decide +kernel
theorem dM_isBound_77 : decode cM_isBound 77 = .ok (.iconst 0, 1) := by decide +kernel
theorem dM_isBound_78 : decode cM_isBound 78 = .ok (.istore_n 3, 1) := by decide +kernel
theorem dM_isBound_79 : decode cM_isBound 79 = .ok (.iinc 4 1, 3) := by decide +kernel
theorem dM_isBound_82 : decode cM_isBound 82 = .ok (.goto (-72), 3) := by decide +kernel
theorem dM_isBound_85 : decode cM_isBound 85 = .ok (.iload_n 3, 1) := by decide +kernel
theorem dM_isBound_86 : decode cM_isBound 86 = .ok (.ireturn, 1) := by decide +kernel
def fM_isBound_10  : Nat → x_W → Nat → Int32 → Int32 → Int32 → Int32 → Option (Int32 × x_W)
  | 0, _, _, _, _, _, _ => none
  | n + 1, w, v0, v1, v2, v3, v4 =>
    (x_ob w v0 5).bind fun _ =>
    (fM_n w v0).bind fun t2 =>
    if t2 ≤ v4 then
      if v3 = 0 ∨ v3 = 1 then some (v3, w) else none
    else
      (x_fr w v0 5 3).bind fun t5 =>
      (x_ai w t5 (0 : Int32)).bind fun t6 =>
      if (fM_has t6 v4) = (0 : Int32) then
        if v3 = (0 : Int32) then
          if (fM_has (0 : Int32) v1) = (0 : Int32) then
            fM_isBound_10 n w v0 v1 v2 (0 : Int32) (v4 + (1 : Int32))
          else
            if (fM_has (0 : Int32) v2) = (0 : Int32) then
              fM_isBound_10 n w v0 v1 v2 (0 : Int32) (v4 + (1 : Int32))
            else
              fM_isBound_10 n w v0 v1 v2 (1 : Int32) (v4 + (1 : Int32))
        else
          fM_isBound_10 n w v0 v1 v2 (1 : Int32) (v4 + (1 : Int32))
      else
        (fM_reach w v0 v4 t6).bind fun t11 =>
        if v3 = (0 : Int32) then
          if (fM_has t11 v1) = (0 : Int32) then
            fM_isBound_10 n w v0 v1 v2 (0 : Int32) (v4 + (1 : Int32))
          else
            if (fM_has t11 v2) = (0 : Int32) then
              fM_isBound_10 n w v0 v1 v2 (0 : Int32) (v4 + (1 : Int32))
            else
              fM_isBound_10 n w v0 v1 v2 (1 : Int32) (v4 + (1 : Int32))
        else
          fM_isBound_10 n w v0 v1 v2 (1 : Int32) (v4 + (1 : Int32))
def fM_isBound  (w : x_W) (v0 : Nat) (v1 : Int32) (v2 : Int32) : Option (Int32 × x_W) :=
  (x_pf w v0 5 4 (.int (0 : Int32))).bind fun w1 =>
  fM_isBound_10 x_F w1 v0 v1 v2 (0 : Int32) (0 : Int32)
set_option maxHeartbeats 4000000 in
set_option maxRecDepth 100000 in
theorem lM_isBound_10 (d : Nat) (hd : 5 ≤ d) {K : Option Value → x_W → Prop} {r : (Int32 × x_W)} (hK : K (some (.int r.1)) r.2) : ∀ (n : Nat) (w : x_W) (v0 : Nat) (v1 : Int32) (v2 : Int32) (v3 : Int32) (v4 : Int32), fM_isBound_10 n w v0 v1 v2 v3 v4 = some r → x_G none yM_isBound cM_isBound 6 (some .boolean) (x_room d 0 0) (x_QM K 0 0) 10 [some (.ref v0), some (.int v1), some (.int v2), some (.int v3), some (.int v4), none] [] w 0 0 := by
  intro n
  induction n with
  | zero => intro w v0 v1 v2 v3 v4 h; rw [fM_isBound_10] at h; cases h
  | succ n ih =>
    intro w v0 v1 v2 v3 v4 h
    rw [fM_isBound_10] at h
    refine g_iload 12 dM_isBound_10 rfl rfl ?_
    refine g_aload_n 13 (i := 0) dM_isBound_12 rfl rfl rfl ?_
    obtain ⟨_, e1, h⟩ := x_bind h
    obtain ⟨t2, e2, h⟩ := x_bind h
    refine g_cV 16 (some (.int t2)) w [] [.int v4] dM_isBound_13 rfl (fun _ hK2 => mM_n (d - 1) (by omega) e2 hK2) (x_ob_some e1) kM_44 (x_rm (Nat.le_trans (by decide) hd) (by decide)) ⟨Nat.zero_le _, Nat.zero_le _⟩ (Nat.le_of_ble_eq_true rfl) rfl ?_
    by_cases c3 : t2 ≤ v4
    · rw [if_pos c3] at h
      refine g_icmp_ge_t 85 dM_isBound_16 (by decide) c3 ?_
      refine g_iload_n 86 (i := 3) dM_isBound_85 rfl rfl rfl ?_
      have c4 : v3 = 0 ∨ v3 = 1 := by
        by_cases c : v3 = 0 ∨ v3 = 1
        · exact c
        · rw [if_neg c] at h; cases h
      rw [if_pos c4] at h
      obtain rfl := Option.some.inj h
      exact g_zret rfl c4 dM_isBound_86 hK
    · rw [if_neg c3] at h
      refine g_icmp_ge_f 19 85 dM_isBound_16 (by decide) rfl c3 ?_
      refine g_aload_n 20 (i := 0) dM_isBound_19 rfl rfl rfl ?_
      obtain ⟨t5, e5, h⟩ := x_bind h
      refine g_getfR 23 5 3 dM_isBound_20 rfl x_in5 tw_2_238 rfl (by decide) e5 ?_
      refine g_iconst 24 (0 : Int32) dM_isBound_23 rfl (by decide) ?_
      obtain ⟨t6, e6, h⟩ := x_bind h
      refine g_iald 25 dM_isBound_24 rfl e6 ?_
      refine g_iload 27 dM_isBound_25 rfl rfl ?_
      refine g_cS 30 (some (.int (fM_has t6 v4))) w [.int t6, .int v4] [] dM_isBound_27 rfl (fun _ hK2 => mM_has (d - 1) (by omega) rfl hK2) kM_62 (x_rm (Nat.le_trans (by decide) hd) (by decide)) ⟨Nat.zero_le _, Nat.zero_le _⟩ (Nat.le_of_ble_eq_true rfl) rfl ?_
      by_cases c7 : (fM_has t6 v4) = (0 : Int32)
      · rw [if_pos c7] at h
        refine g_if_eq_t 48 dM_isBound_30 (by decide) c7 ?_
        refine g_iconst 49 (0 : Int32) dM_isBound_48 rfl (by decide) ?_
        refine g_istore 51 [some (.ref v0), some (.int v1), some (.int v2), some (.int v3), some (.int v4), some (.int (0 : Int32))] dM_isBound_49 rfl rfl (by decide) ?_
        refine g_iload_n 52 (i := 3) dM_isBound_51 rfl rfl rfl ?_
        by_cases c8 : v3 = (0 : Int32)
        · rw [if_pos c8] at h
          refine g_if_ne_f 55 73 dM_isBound_52 (by decide) rfl c8 ?_
          refine g_iload 57 dM_isBound_55 rfl rfl ?_
          refine g_iload_n 58 (i := 1) dM_isBound_57 rfl rfl rfl ?_
          refine g_cS 61 (some (.int (fM_has (0 : Int32) v1))) w [.int (0 : Int32), .int v1] [] dM_isBound_58 rfl (fun _ hK2 => mM_has (d - 1) (by omega) rfl hK2) kM_62 (x_rm (Nat.le_trans (by decide) hd) (by decide)) ⟨Nat.zero_le _, Nat.zero_le _⟩ (Nat.le_of_ble_eq_true rfl) rfl ?_
          by_cases c9 : (fM_has (0 : Int32) v1) = (0 : Int32)
          · rw [if_pos c9] at h
            refine g_if_eq_t 77 dM_isBound_61 (by decide) c9 ?_
            refine g_iconst 78 (0 : Int32) dM_isBound_77 rfl (by decide) ?_
            refine g_istore_n 79 (i := 3) [some (.ref v0), some (.int v1), some (.int v2), some (.int (0 : Int32)), some (.int v4), some (.int (0 : Int32))] dM_isBound_78 rfl rfl rfl (by decide) ?_
            refine g_iinc 82 [some (.ref v0), some (.int v1), some (.int v2), some (.int (0 : Int32)), some (.int (v4 + (1 : Int32))), some (.int (0 : Int32))] dM_isBound_79 rfl rfl (x_inc (1 : Int32) (by decide)) rfl (by decide) ?_
            refine g_goto 10 dM_isBound_82 (by decide) ?_
            refine g_less [some (.ref v0), some (.int v1), some (.int v2), some (.int (0 : Int32)), some (.int (v4 + (1 : Int32))), none] ⟨rfl, rfl, rfl, rfl, rfl, trivial⟩ ?_
            exact ih _ _ _ _ _ _ h
          · rw [if_neg c9] at h
            refine g_if_eq_f 64 77 dM_isBound_61 (by decide) rfl c9 ?_
            refine g_iload 66 dM_isBound_64 rfl rfl ?_
            refine g_iload_n 67 (i := 2) dM_isBound_66 rfl rfl rfl ?_
            refine g_cS 70 (some (.int (fM_has (0 : Int32) v2))) w [.int (0 : Int32), .int v2] [] dM_isBound_67 rfl (fun _ hK2 => mM_has (d - 1) (by omega) rfl hK2) kM_62 (x_rm (Nat.le_trans (by decide) hd) (by decide)) ⟨Nat.zero_le _, Nat.zero_le _⟩ (Nat.le_of_ble_eq_true rfl) rfl ?_
            by_cases c10 : (fM_has (0 : Int32) v2) = (0 : Int32)
            · rw [if_pos c10] at h
              refine g_if_eq_t 77 dM_isBound_70 (by decide) c10 ?_
              refine g_iconst 78 (0 : Int32) dM_isBound_77 rfl (by decide) ?_
              refine g_istore_n 79 (i := 3) [some (.ref v0), some (.int v1), some (.int v2), some (.int (0 : Int32)), some (.int v4), some (.int (0 : Int32))] dM_isBound_78 rfl rfl rfl (by decide) ?_
              refine g_iinc 82 [some (.ref v0), some (.int v1), some (.int v2), some (.int (0 : Int32)), some (.int (v4 + (1 : Int32))), some (.int (0 : Int32))] dM_isBound_79 rfl rfl (x_inc (1 : Int32) (by decide)) rfl (by decide) ?_
              refine g_goto 10 dM_isBound_82 (by decide) ?_
              refine g_less [some (.ref v0), some (.int v1), some (.int v2), some (.int (0 : Int32)), some (.int (v4 + (1 : Int32))), none] ⟨rfl, rfl, rfl, rfl, rfl, trivial⟩ ?_
              exact ih _ _ _ _ _ _ h
            · rw [if_neg c10] at h
              refine g_if_eq_f 73 77 dM_isBound_70 (by decide) rfl c10 ?_
              refine g_iconst 74 (1 : Int32) dM_isBound_73 rfl (by decide) ?_
              refine g_goto 78 dM_isBound_74 (by decide) ?_
              refine g_istore_n 79 (i := 3) [some (.ref v0), some (.int v1), some (.int v2), some (.int (1 : Int32)), some (.int v4), some (.int (0 : Int32))] dM_isBound_78 rfl rfl rfl (by decide) ?_
              refine g_iinc 82 [some (.ref v0), some (.int v1), some (.int v2), some (.int (1 : Int32)), some (.int (v4 + (1 : Int32))), some (.int (0 : Int32))] dM_isBound_79 rfl rfl (x_inc (1 : Int32) (by decide)) rfl (by decide) ?_
              refine g_goto 10 dM_isBound_82 (by decide) ?_
              refine g_less [some (.ref v0), some (.int v1), some (.int v2), some (.int (1 : Int32)), some (.int (v4 + (1 : Int32))), none] ⟨rfl, rfl, rfl, rfl, rfl, trivial⟩ ?_
              exact ih _ _ _ _ _ _ h
        · rw [if_neg c8] at h
          refine g_if_ne_t 73 dM_isBound_52 (by decide) c8 ?_
          refine g_iconst 74 (1 : Int32) dM_isBound_73 rfl (by decide) ?_
          refine g_goto 78 dM_isBound_74 (by decide) ?_
          refine g_istore_n 79 (i := 3) [some (.ref v0), some (.int v1), some (.int v2), some (.int (1 : Int32)), some (.int v4), some (.int (0 : Int32))] dM_isBound_78 rfl rfl rfl (by decide) ?_
          refine g_iinc 82 [some (.ref v0), some (.int v1), some (.int v2), some (.int (1 : Int32)), some (.int (v4 + (1 : Int32))), some (.int (0 : Int32))] dM_isBound_79 rfl rfl (x_inc (1 : Int32) (by decide)) rfl (by decide) ?_
          refine g_goto 10 dM_isBound_82 (by decide) ?_
          refine g_less [some (.ref v0), some (.int v1), some (.int v2), some (.int (1 : Int32)), some (.int (v4 + (1 : Int32))), none] ⟨rfl, rfl, rfl, rfl, rfl, trivial⟩ ?_
          exact ih _ _ _ _ _ _ h
      · rw [if_neg c7] at h
        refine g_if_eq_f 33 48 dM_isBound_30 (by decide) rfl c7 ?_
        refine g_aload_n 34 (i := 0) dM_isBound_33 rfl rfl rfl ?_
        refine g_iload 36 dM_isBound_34 rfl rfl ?_
        refine g_aload_n 37 (i := 0) dM_isBound_36 rfl rfl rfl ?_
        refine g_getfR 40 5 3 dM_isBound_37 rfl x_in5 tw_2_238 rfl (by decide) e5 ?_
        refine g_iconst 41 (0 : Int32) dM_isBound_40 rfl (by decide) ?_
        refine g_iald 42 dM_isBound_41 rfl e6 ?_
        obtain ⟨t11, e11, h⟩ := x_bind h
        refine g_cV 45 (some (.int t11)) w [.int v4, .int t6] [] dM_isBound_42 rfl (fun _ hK2 => mM_reach (d - 1) (by omega) e11 hK2) (x_fr_ob e5) kM_77 (x_rm (Nat.le_trans (by decide) hd) (by decide)) ⟨Nat.zero_le _, Nat.zero_le _⟩ (Nat.le_of_ble_eq_true rfl) rfl ?_
        refine g_goto 49 dM_isBound_45 (by decide) ?_
        refine g_istore 51 [some (.ref v0), some (.int v1), some (.int v2), some (.int v3), some (.int v4), some (.int t11)] dM_isBound_49 rfl rfl (by decide) ?_
        refine g_iload_n 52 (i := 3) dM_isBound_51 rfl rfl rfl ?_
        by_cases c12 : v3 = (0 : Int32)
        · rw [if_pos c12] at h
          refine g_if_ne_f 55 73 dM_isBound_52 (by decide) rfl c12 ?_
          refine g_iload 57 dM_isBound_55 rfl rfl ?_
          refine g_iload_n 58 (i := 1) dM_isBound_57 rfl rfl rfl ?_
          refine g_cS 61 (some (.int (fM_has t11 v1))) w [.int t11, .int v1] [] dM_isBound_58 rfl (fun _ hK2 => mM_has (d - 1) (by omega) rfl hK2) kM_62 (x_rm (Nat.le_trans (by decide) hd) (by decide)) ⟨Nat.zero_le _, Nat.zero_le _⟩ (Nat.le_of_ble_eq_true rfl) rfl ?_
          by_cases c13 : (fM_has t11 v1) = (0 : Int32)
          · rw [if_pos c13] at h
            refine g_if_eq_t 77 dM_isBound_61 (by decide) c13 ?_
            refine g_iconst 78 (0 : Int32) dM_isBound_77 rfl (by decide) ?_
            refine g_istore_n 79 (i := 3) [some (.ref v0), some (.int v1), some (.int v2), some (.int (0 : Int32)), some (.int v4), some (.int t11)] dM_isBound_78 rfl rfl rfl (by decide) ?_
            refine g_iinc 82 [some (.ref v0), some (.int v1), some (.int v2), some (.int (0 : Int32)), some (.int (v4 + (1 : Int32))), some (.int t11)] dM_isBound_79 rfl rfl (x_inc (1 : Int32) (by decide)) rfl (by decide) ?_
            refine g_goto 10 dM_isBound_82 (by decide) ?_
            refine g_less [some (.ref v0), some (.int v1), some (.int v2), some (.int (0 : Int32)), some (.int (v4 + (1 : Int32))), none] ⟨rfl, rfl, rfl, rfl, rfl, trivial⟩ ?_
            exact ih _ _ _ _ _ _ h
          · rw [if_neg c13] at h
            refine g_if_eq_f 64 77 dM_isBound_61 (by decide) rfl c13 ?_
            refine g_iload 66 dM_isBound_64 rfl rfl ?_
            refine g_iload_n 67 (i := 2) dM_isBound_66 rfl rfl rfl ?_
            refine g_cS 70 (some (.int (fM_has t11 v2))) w [.int t11, .int v2] [] dM_isBound_67 rfl (fun _ hK2 => mM_has (d - 1) (by omega) rfl hK2) kM_62 (x_rm (Nat.le_trans (by decide) hd) (by decide)) ⟨Nat.zero_le _, Nat.zero_le _⟩ (Nat.le_of_ble_eq_true rfl) rfl ?_
            by_cases c14 : (fM_has t11 v2) = (0 : Int32)
            · rw [if_pos c14] at h
              refine g_if_eq_t 77 dM_isBound_70 (by decide) c14 ?_
              refine g_iconst 78 (0 : Int32) dM_isBound_77 rfl (by decide) ?_
              refine g_istore_n 79 (i := 3) [some (.ref v0), some (.int v1), some (.int v2), some (.int (0 : Int32)), some (.int v4), some (.int t11)] dM_isBound_78 rfl rfl rfl (by decide) ?_
              refine g_iinc 82 [some (.ref v0), some (.int v1), some (.int v2), some (.int (0 : Int32)), some (.int (v4 + (1 : Int32))), some (.int t11)] dM_isBound_79 rfl rfl (x_inc (1 : Int32) (by decide)) rfl (by decide) ?_
              refine g_goto 10 dM_isBound_82 (by decide) ?_
              refine g_less [some (.ref v0), some (.int v1), some (.int v2), some (.int (0 : Int32)), some (.int (v4 + (1 : Int32))), none] ⟨rfl, rfl, rfl, rfl, rfl, trivial⟩ ?_
              exact ih _ _ _ _ _ _ h
            · rw [if_neg c14] at h
              refine g_if_eq_f 73 77 dM_isBound_70 (by decide) rfl c14 ?_
              refine g_iconst 74 (1 : Int32) dM_isBound_73 rfl (by decide) ?_
              refine g_goto 78 dM_isBound_74 (by decide) ?_
              refine g_istore_n 79 (i := 3) [some (.ref v0), some (.int v1), some (.int v2), some (.int (1 : Int32)), some (.int v4), some (.int t11)] dM_isBound_78 rfl rfl rfl (by decide) ?_
              refine g_iinc 82 [some (.ref v0), some (.int v1), some (.int v2), some (.int (1 : Int32)), some (.int (v4 + (1 : Int32))), some (.int t11)] dM_isBound_79 rfl rfl (x_inc (1 : Int32) (by decide)) rfl (by decide) ?_
              refine g_goto 10 dM_isBound_82 (by decide) ?_
              refine g_less [some (.ref v0), some (.int v1), some (.int v2), some (.int (1 : Int32)), some (.int (v4 + (1 : Int32))), none] ⟨rfl, rfl, rfl, rfl, rfl, trivial⟩ ?_
              exact ih _ _ _ _ _ _ h
        · rw [if_neg c12] at h
          refine g_if_ne_t 73 dM_isBound_52 (by decide) c12 ?_
          refine g_iconst 74 (1 : Int32) dM_isBound_73 rfl (by decide) ?_
          refine g_goto 78 dM_isBound_74 (by decide) ?_
          refine g_istore_n 79 (i := 3) [some (.ref v0), some (.int v1), some (.int v2), some (.int (1 : Int32)), some (.int v4), some (.int t11)] dM_isBound_78 rfl rfl rfl (by decide) ?_
          refine g_iinc 82 [some (.ref v0), some (.int v1), some (.int v2), some (.int (1 : Int32)), some (.int (v4 + (1 : Int32))), some (.int t11)] dM_isBound_79 rfl rfl (x_inc (1 : Int32) (by decide)) rfl (by decide) ?_
          refine g_goto 10 dM_isBound_82 (by decide) ?_
          refine g_less [some (.ref v0), some (.int v1), some (.int v2), some (.int (1 : Int32)), some (.int (v4 + (1 : Int32))), none] ⟨rfl, rfl, rfl, rfl, rfl, trivial⟩ ?_
          exact ih _ _ _ _ _ _ h
set_option maxHeartbeats 4000000 in
set_option maxRecDepth 100000 in
theorem mM_isBound (d : Nat) (hd : 5 ≤ d) {K : Option Value → x_W → Prop} {w : x_W} {v0 : Nat} {v1 : Int32} {v2 : Int32} {r : (Int32 × x_W)} (h : fM_isBound w v0 v1 v2 = some r) (hK : K (some (.int r.1)) r.2) : x_M yM_isBound cM_isBound 6 (some .boolean) d 0 0 [.ref v0, .int v1, .int v2] w K := by
  refine x_M.of [some (.ref v0), some (.int v1), some (.int v2), none, none, none] (by decide) rfl (Nat.le_of_ble_eq_true rfl) ?_
  unfold fM_isBound at h
  refine g_aload_n 1 (i := 0) dM_isBound_0 rfl rfl rfl ?_
  refine g_iconst 2 (0 : Int32) dM_isBound_1 rfl (by decide) ?_
  obtain ⟨w1, e1, h⟩ := x_bind h
  refine g_putf 5 5 4 xy5 xy5_ok xn5 dM_isBound_2 rfl x_in5 tw_2_239 rfl (by decide) rfl (fun _ _ => ⟨rfl, rfl⟩) e1 ?_
  refine g_iconst 6 (0 : Int32) dM_isBound_5 rfl (by decide) ?_
  refine g_istore_n 7 (i := 3) [some (.ref v0), some (.int v1), some (.int v2), some (.int (0 : Int32)), none, none] dM_isBound_6 rfl rfl rfl (by decide) ?_
  refine g_iconst 8 (0 : Int32) dM_isBound_7 rfl (by decide) ?_
  refine g_istore 10 [some (.ref v0), some (.int v1), some (.int v2), some (.int (0 : Int32)), some (.int (0 : Int32)), none] dM_isBound_8 rfl rfl (by decide) ?_
  exact lM_isBound_10 d hd hK x_F _ _ _ _ _ _ h
/-! ActSurgeryModel.clumpOf(I)I: level X -/
theorem dM_clumpOf_0 : decode cM_clumpOf 0 = .ok (.aload_n 0, 1) := by decide +kernel
theorem dM_clumpOf_1 : decode cM_clumpOf 1 = .ok (.getfield 19, 3) := by decide +kernel
theorem dM_clumpOf_4 : decode cM_clumpOf 4 = .ok (.iconst 0, 1) := by decide +kernel
theorem dM_clumpOf_5 : decode cM_clumpOf 5 = .ok (.iaload, 1) := by decide +kernel
theorem dM_clumpOf_6 : decode cM_clumpOf 6 = .ok (.iload_n 1, 1) := by decide +kernel
theorem dM_clumpOf_7 : decode cM_clumpOf 7 = .ok (.invokestatic 62, 3) := by decide +kernel
theorem dM_clumpOf_10 : decode cM_clumpOf 10 = .ok (.ifCond .eq 5, 3) := by decide +kernel
theorem dM_clumpOf_13 : decode cM_clumpOf 13 = .ok (.iconst 0, 1) := by decide +kernel
theorem dM_clumpOf_14 : decode cM_clumpOf 14 = .ok (.ireturn, 1) := by decide +kernel
theorem dM_clumpOf_15 : decode cM_clumpOf 15 = .ok (.iconst 1, 1) := by decide +kernel
theorem dM_clumpOf_16 : decode cM_clumpOf 16 = .ok (.iload_n 1, 1) := by decide +kernel
theorem dM_clumpOf_17 : decode cM_clumpOf 17 = .ok (.ishl, 1) := by decide +kernel
theorem dM_clumpOf_18 : decode cM_clumpOf 18 = .ok (.istore_n 2, 1) := by decide +kernel
theorem dM_clumpOf_19 : decode cM_clumpOf 19 = .ok (.iconst 0, 1) := by decide +kernel
theorem dM_clumpOf_20 : decode cM_clumpOf 20 = .ok (.istore_n 3, 1) := by decide +kernel
theorem dM_clumpOf_21 : decode cM_clumpOf 21 = .ok (.iload_n 2, 1) := by decide +kernel
theorem dM_clumpOf_22 : decode cM_clumpOf 22 = .ok (.iload_n 3, 1) := by decide +kernel
theorem dM_clumpOf_23 : decode cM_clumpOf 23 = .ok (.if_icmp .eq 89, 3) := by decide +kernel
theorem dM_clumpOf_26 : decode cM_clumpOf 26 = .ok (.iload_n 2, 1) := by decide +kernel
theorem dM_clumpOf_27 : decode cM_clumpOf 27 = .ok (.istore_n 3, 1) := by decide +kernel
theorem dM_clumpOf_28 : decode cM_clumpOf 28 = .ok (.iconst 0, 1) := by decide +kernel
theorem dM_clumpOf_29 : decode cM_clumpOf 29 = .ok (.istore 4, 2) := by decide +kernel
theorem dM_clumpOf_31 : decode cM_clumpOf 31 = .ok (.iload 4, 2) := by decide +kernel
theorem dM_clumpOf_33 : decode cM_clumpOf 33 = .ok (.aload_n 0, 1) := by decide +kernel
theorem dM_clumpOf_34 : decode cM_clumpOf 34 = .ok (.invokevirtual 44, 3) := by decide +kernel
theorem dM_clumpOf_37 : decode cM_clumpOf 37 = .ok (.if_icmp .ge 72, 3) := by decide +kernel
theorem dM_clumpOf_40 : decode cM_clumpOf 40 = .ok (.iconst 0, 1) := by decide +kernel
theorem dM_clumpOf_41 : decode cM_clumpOf 41 = .ok (.istore 5, 2) := by decide +kernel
theorem dM_clumpOf_43 : decode cM_clumpOf 43 = .ok (.iload 5, 2) := by decide +kernel
theorem dM_clumpOf_45 : decode cM_clumpOf 45 = .ok (.aload_n 0, 1) := by decide +kernel
theorem dM_clumpOf_46 : decode cM_clumpOf 46 = .ok (.invokevirtual 44, 3) := by decide +kernel
theorem dM_clumpOf_49 : decode cM_clumpOf 49 = .ok (.if_icmp .ge 54, 3) := by decide +kernel
theorem dM_clumpOf_52 : decode cM_clumpOf 52 = .ok (.iload_n 3, 1) := by decide +kernel
theorem dM_clumpOf_53 : decode cM_clumpOf 53 = .ok (.iload 4, 2) := by decide +kernel
theorem dM_clumpOf_55 : decode cM_clumpOf 55 = .ok (.invokestatic 62, 3) := by decide +kernel
theorem dM_clumpOf_58 : decode cM_clumpOf 58 = .ok (.ifCond .eq 37, 3) := by decide +kernel
theorem dM_clumpOf_61 : decode cM_clumpOf 61 = .ok (.aload_n 0, 1) := by decide +kernel
theorem dM_clumpOf_62 : decode cM_clumpOf 62 = .ok (.getfield 19, 3) := by decide +kernel
theorem dM_clumpOf_65 : decode cM_clumpOf 65 = .ok (.iconst 0, 1) := by decide +kernel
theorem dM_clumpOf_66 : decode cM_clumpOf 66 = .ok (.iaload, 1) := by decide +kernel
theorem dM_clumpOf_67 : decode cM_clumpOf 67 = .ok (.iload 5, 2) := by decide +kernel
theorem dM_clumpOf_69 : decode cM_clumpOf 69 = .ok (.invokestatic 62, 3) := by decide +kernel
theorem dM_clumpOf_72 : decode cM_clumpOf 72 = .ok (.ifCond .ne 23, 3) := by decide +kernel
theorem dM_clumpOf_75 : decode cM_clumpOf 75 = .ok (.aload_n 0, 1) := by decide +kernel
theorem dM_clumpOf_76 : decode cM_clumpOf 76 = .ok (.iload 4, 2) := by decide +kernel
theorem dM_clumpOf_78 : decode cM_clumpOf 78 = .ok (.iload 5, 2) := by decide +kernel
theorem dM_clumpOf_80 : decode cM_clumpOf 80 = .ok (.invokevirtual 125, 3) := by decide +kernel
theorem dM_clumpOf_83 : decode cM_clumpOf 83 = .ok (.ifCond .eq 12, 3) := by decide +kernel
theorem dM_clumpOf_86 : decode cM_clumpOf 86 = .ok (.iload_n 2, 1) := by decide +kernel
theorem dM_clumpOf_87 : decode cM_clumpOf 87 = .ok (.iconst 1, 1) := by decide +kernel
theorem dM_clumpOf_88 : decode cM_clumpOf 88 = .ok (.iload 5, 2) := by decide +kernel
theorem dM_clumpOf_90 : decode cM_clumpOf 90 = .ok (.ishl, 1) := by decide +kernel
theorem dM_clumpOf_91 : decode cM_clumpOf 91 = .ok (.ior, 1) := by decide +kernel
theorem dM_clumpOf_92 : decode cM_clumpOf 92 = .ok (.goto 4, 3) := by decide +kernel
theorem dM_clumpOf_95 : decode cM_clumpOf 95 = .ok (.iload_n 2, 1) := by decide +kernel
theorem dM_clumpOf_96 : decode cM_clumpOf 96 = .ok (.istore_n 2, 1) := by decide +kernel
theorem dM_clumpOf_97 : decode cM_clumpOf 97 = .ok (.iinc 5 1, 3) := by decide +kernel
theorem dM_clumpOf_100 : decode cM_clumpOf 100 = .ok (.goto (-57), 3) := by decide +kernel
theorem dM_clumpOf_103 : decode cM_clumpOf 103 = .ok (.iinc 4 1, 3) := by decide +kernel
theorem dM_clumpOf_106 : decode cM_clumpOf 106 = .ok (.goto (-75), 3) := by decide +kernel
theorem dM_clumpOf_109 : decode cM_clumpOf 109 = .ok (.goto (-88), 3) := by decide +kernel
theorem dM_clumpOf_112 : decode cM_clumpOf 112 = .ok (.iload_n 2, 1) := by decide +kernel
theorem dM_clumpOf_113 : decode cM_clumpOf 113 = .ok (.ireturn, 1) := by decide +kernel
theorem tw_3_166 : (Jvm.Cond.instanceMethod ({ cls := "ActSurgeryModel", name := "isBound", desc := "(II)Z" } : Jvm.MethodName)) ∈ x_GT := x_t3 166 rfl rfl
theorem tws_49 : (Jvm.Cond.selects "ActSurgeryModel" ({ cls := "ActSurgeryModel", name := "isBound", desc := "(II)Z" } : Jvm.MethodName) ({ cls := "ActSurgeryModel", name := "isBound", desc := "(II)Z" } : Jvm.MethodName)) ∈ x_GT := x_ts 49 rfl rfl
theorem tw_3_167 : (Jvm.Cond.code ({ cls := "ActSurgeryModel", name := "isBound", desc := "(II)Z" } : Jvm.MethodName) prog_7_method_36_code (6 : Nat) (Option.some Jvm.ClassFile.FieldType.boolean)) ∈ x_GT := x_t3 167 rfl rfl
theorem tw_3_164 : (Jvm.Cond.methodLink "ActSurgeryModel" (125 : Nat) ({ cls := "ActSurgeryModel", name := "isBound", desc := "(II)Z" } : Jvm.MethodName)) ∈ x_GT := x_t3 164 rfl rfl
theorem kM_125 : x_kV "ActSurgeryModel" 125 yM_isBound cM_isBound 6 (some .boolean) 2 5 := ⟨tw_3_166, tws_49, tw_3_167, tw_1_6, tw_3_164, (by decide +kernel), rfl⟩
def fM_clumpOf_43 (k21 : x_W → Nat → Int32 → Int32 → Option (Int32 × x_W)) (k31 : x_W → Nat → Int32 → Int32 → Int32 → Option (Int32 × x_W)) : Nat → x_W → Nat → Int32 → Int32 → Int32 → Int32 → Option (Int32 × x_W)
  | 0, _, _, _, _, _, _ => none
  | n + 1, w, v0, v2, v3, v4, v5 =>
    (x_ob w v0 5).bind fun _ =>
    (fM_n w v0).bind fun t2 =>
    if t2 ≤ v5 then
      k31 w v0 v2 v3 (v4 + (1 : Int32))
    else
      if (fM_has v3 v4) = (0 : Int32) then
        fM_clumpOf_43 k21 k31 n w v0 v2 v3 v4 (v5 + (1 : Int32))
      else
        (x_fr w v0 5 3).bind fun t5 =>
        (x_ai w t5 (0 : Int32)).bind fun t6 =>
        if (fM_has t6 v5) = (0 : Int32) then
          (fM_isBound w v0 v4 v5).bind fun q8 =>
          if q8.1 = (0 : Int32) then
            fM_clumpOf_43 k21 k31 n q8.2 v0 v2 v3 v4 (v5 + (1 : Int32))
          else
            fM_clumpOf_43 k21 k31 n q8.2 v0 (v2 ||| ((1 : Int32) <<< (v5 &&& 31))) v3 v4 (v5 + (1 : Int32))
        else
          fM_clumpOf_43 k21 k31 n w v0 v2 v3 v4 (v5 + (1 : Int32))
def fM_clumpOf_31 (k21 : x_W → Nat → Int32 → Int32 → Option (Int32 × x_W)) : Nat → x_W → Nat → Int32 → Int32 → Int32 → Option (Int32 × x_W)
  | 0, _, _, _, _, _ => none
  | n + 1, w, v0, v2, v3, v4 =>
    (x_ob w v0 5).bind fun _ =>
    (fM_n w v0).bind fun t2 =>
    if t2 ≤ v4 then
      k21 w v0 v2 v3
    else
      fM_clumpOf_43 k21 (fM_clumpOf_31 k21 n) x_F w v0 v2 v3 v4 (0 : Int32)
def fM_clumpOf_21  : Nat → x_W → Nat → Int32 → Int32 → Option (Int32 × x_W)
  | 0, _, _, _, _ => none
  | n + 1, w, v0, v2, v3 =>
    if v2 = v3 then
      some (v2, w)
    else
      fM_clumpOf_31 (fM_clumpOf_21 n) x_F w v0 v2 v2 (0 : Int32)
def fM_clumpOf  (w : x_W) (v0 : Nat) (v1 : Int32) : Option (Int32 × x_W) :=
  (x_fr w v0 5 3).bind fun t1 =>
  (x_ai w t1 (0 : Int32)).bind fun t2 =>
  if (fM_has t2 v1) = (0 : Int32) then
    fM_clumpOf_21 x_F w v0 ((1 : Int32) <<< (v1 &&& 31)) (0 : Int32)
  else
    some ((0 : Int32), w)
set_option maxHeartbeats 4000000 in
set_option maxRecDepth 100000 in
theorem lM_clumpOf_43 (d : Nat) (hd : 6 ≤ d) {K : Option Value → x_W → Prop} {r : (Int32 × x_W)} (hK : K (some (.int r.1)) r.2) {k21 : x_W → Nat → Int32 → Int32 → Option (Int32 × x_W)} (hk21 : ∀ (w : x_W) (v0 : Nat) (v2 : Int32) (v3 : Int32), k21 w v0 v2 v3 = some r → x_G none yM_clumpOf cM_clumpOf 6 (some .int) (x_room d 0 0) (x_QM K 0 0) 21 [some (.ref v0), none, some (.int v2), some (.int v3), none, none] [] w 0 0) {k31 : x_W → Nat → Int32 → Int32 → Int32 → Option (Int32 × x_W)} (hk31 : ∀ (w : x_W) (v0 : Nat) (v2 : Int32) (v3 : Int32) (v4 : Int32), k31 w v0 v2 v3 v4 = some r → x_G none yM_clumpOf cM_clumpOf 6 (some .int) (x_room d 0 0) (x_QM K 0 0) 31 [some (.ref v0), none, some (.int v2), some (.int v3), some (.int v4), none] [] w 0 0) : ∀ (n : Nat) (w : x_W) (v0 : Nat) (v2 : Int32) (v3 : Int32) (v4 : Int32) (v5 : Int32), fM_clumpOf_43 k21 k31 n w v0 v2 v3 v4 v5 = some r → x_G none yM_clumpOf cM_clumpOf 6 (some .int) (x_room d 0 0) (x_QM K 0 0) 43 [some (.ref v0), none, some (.int v2), some (.int v3), some (.int v4), some (.int v5)] [] w 0 0 := by
  intro n
  induction n with
  | zero => intro w v0 v2 v3 v4 v5 h; rw [fM_clumpOf_43] at h; cases h
  | succ n ih =>
    intro w v0 v2 v3 v4 v5 h
    rw [fM_clumpOf_43] at h
    refine g_iload 45 dM_clumpOf_43 rfl rfl ?_
    refine g_aload_n 46 (i := 0) dM_clumpOf_45 rfl rfl rfl ?_
    obtain ⟨_, e1, h⟩ := x_bind h
    obtain ⟨t2, e2, h⟩ := x_bind h
    refine g_cV 49 (some (.int t2)) w [] [.int v5] dM_clumpOf_46 rfl (fun _ hK2 => mM_n (d - 1) (by omega) e2 hK2) (x_ob_some e1) kM_44 (x_rm (Nat.le_trans (by decide) hd) (by decide)) ⟨Nat.zero_le _, Nat.zero_le _⟩ (Nat.le_of_ble_eq_true rfl) rfl ?_
    by_cases c3 : t2 ≤ v5
    · rw [if_pos c3] at h
      refine g_icmp_ge_t 103 dM_clumpOf_49 (by decide) c3 ?_
      refine g_iinc 106 [some (.ref v0), none, some (.int v2), some (.int v3), some (.int (v4 + (1 : Int32))), some (.int v5)] dM_clumpOf_103 rfl rfl (x_inc (1 : Int32) (by decide)) rfl (by decide) ?_
      refine g_goto 31 dM_clumpOf_106 (by decide) ?_
      refine g_less [some (.ref v0), none, some (.int v2), some (.int v3), some (.int (v4 + (1 : Int32))), none] ⟨rfl, rfl, rfl, rfl, trivial⟩ ?_
      exact hk31 _ _ _ _ _ h
    · rw [if_neg c3] at h
      refine g_icmp_ge_f 52 103 dM_clumpOf_49 (by decide) rfl c3 ?_
      refine g_iload_n 53 (i := 3) dM_clumpOf_52 rfl rfl rfl ?_
      refine g_iload 55 dM_clumpOf_53 rfl rfl ?_
      refine g_cS 58 (some (.int (fM_has v3 v4))) w [.int v3, .int v4] [] dM_clumpOf_55 rfl (fun _ hK2 => mM_has (d - 1) (by omega) rfl hK2) kM_62 (x_rm (Nat.le_trans (by decide) hd) (by decide)) ⟨Nat.zero_le _, Nat.zero_le _⟩ (Nat.le_of_ble_eq_true rfl) rfl ?_
      by_cases c4 : (fM_has v3 v4) = (0 : Int32)
      · rw [if_pos c4] at h
        refine g_if_eq_t 95 dM_clumpOf_58 (by decide) c4 ?_
        refine g_iload_n 96 (i := 2) dM_clumpOf_95 rfl rfl rfl ?_
        refine g_istore_n 97 (i := 2) [some (.ref v0), none, some (.int v2), some (.int v3), some (.int v4), some (.int v5)] dM_clumpOf_96 rfl rfl rfl (by decide) ?_
        refine g_iinc 100 [some (.ref v0), none, some (.int v2), some (.int v3), some (.int v4), some (.int (v5 + (1 : Int32)))] dM_clumpOf_97 rfl rfl (x_inc (1 : Int32) (by decide)) rfl (by decide) ?_
        refine g_goto 43 dM_clumpOf_100 (by decide) ?_
        exact ih _ _ _ _ _ _ h
      · rw [if_neg c4] at h
        refine g_if_eq_f 61 95 dM_clumpOf_58 (by decide) rfl c4 ?_
        refine g_aload_n 62 (i := 0) dM_clumpOf_61 rfl rfl rfl ?_
        obtain ⟨t5, e5, h⟩ := x_bind h
        refine g_getfR 65 5 3 dM_clumpOf_62 rfl x_in5 tw_2_238 rfl (by decide) e5 ?_
        refine g_iconst 66 (0 : Int32) dM_clumpOf_65 rfl (by decide) ?_
        obtain ⟨t6, e6, h⟩ := x_bind h
        refine g_iald 67 dM_clumpOf_66 rfl e6 ?_
        refine g_iload 69 dM_clumpOf_67 rfl rfl ?_
        refine g_cS 72 (some (.int (fM_has t6 v5))) w [.int t6, .int v5] [] dM_clumpOf_69 rfl (fun _ hK2 => mM_has (d - 1) (by omega) rfl hK2) kM_62 (x_rm (Nat.le_trans (by decide) hd) (by decide)) ⟨Nat.zero_le _, Nat.zero_le _⟩ (Nat.le_of_ble_eq_true rfl) rfl ?_
        by_cases c7 : (fM_has t6 v5) = (0 : Int32)
        · rw [if_pos c7] at h
          refine g_if_ne_f 75 95 dM_clumpOf_72 (by decide) rfl c7 ?_
          refine g_aload_n 76 (i := 0) dM_clumpOf_75 rfl rfl rfl ?_
          refine g_iload 78 dM_clumpOf_76 rfl rfl ?_
          refine g_iload 80 dM_clumpOf_78 rfl rfl ?_
          obtain ⟨q8, e8, h⟩ := x_bind h
          refine g_cV 83 (some (.int q8.1)) q8.2 [.int v4, .int v5] [] dM_clumpOf_80 rfl (fun _ hK2 => mM_isBound (d - 1) (by omega) e8 hK2) (x_fr_ob e5) kM_125 (x_rm (Nat.le_trans (by decide) hd) (by decide)) ⟨Nat.zero_le _, Nat.zero_le _⟩ (Nat.le_of_ble_eq_true rfl) rfl ?_
          by_cases c9 : q8.1 = (0 : Int32)
          · rw [if_pos c9] at h
            refine g_if_eq_t 95 dM_clumpOf_83 (by decide) c9 ?_
            refine g_iload_n 96 (i := 2) dM_clumpOf_95 rfl rfl rfl ?_
            refine g_istore_n 97 (i := 2) [some (.ref v0), none, some (.int v2), some (.int v3), some (.int v4), some (.int v5)] dM_clumpOf_96 rfl rfl rfl (by decide) ?_
            refine g_iinc 100 [some (.ref v0), none, some (.int v2), some (.int v3), some (.int v4), some (.int (v5 + (1 : Int32)))] dM_clumpOf_97 rfl rfl (x_inc (1 : Int32) (by decide)) rfl (by decide) ?_
            refine g_goto 43 dM_clumpOf_100 (by decide) ?_
            exact ih _ _ _ _ _ _ h
          · rw [if_neg c9] at h
            refine g_if_eq_f 86 95 dM_clumpOf_83 (by decide) rfl c9 ?_
            refine g_iload_n 87 (i := 2) dM_clumpOf_86 rfl rfl rfl ?_
            refine g_iconst 88 (1 : Int32) dM_clumpOf_87 rfl (by decide) ?_
            refine g_iload 90 dM_clumpOf_88 rfl rfl ?_
            refine g_ishl 91 dM_clumpOf_90 rfl ?_
            refine g_ior 92 dM_clumpOf_91 rfl ?_
            refine g_goto 96 dM_clumpOf_92 (by decide) ?_
            refine g_istore_n 97 (i := 2) [some (.ref v0), none, some (.int (v2 ||| ((1 : Int32) <<< (v5 &&& 31)))), some (.int v3), some (.int v4), some (.int v5)] dM_clumpOf_96 rfl rfl rfl (by decide) ?_
            refine g_iinc 100 [some (.ref v0), none, some (.int (v2 ||| ((1 : Int32) <<< (v5 &&& 31)))), some (.int v3), some (.int v4), some (.int (v5 + (1 : Int32)))] dM_clumpOf_97 rfl rfl (x_inc (1 : Int32) (by decide)) rfl (by decide) ?_
            refine g_goto 43 dM_clumpOf_100 (by decide) ?_
            exact ih _ _ _ _ _ _ h
        · rw [if_neg c7] at h
          refine g_if_ne_t 95 dM_clumpOf_72 (by decide) c7 ?_
          refine g_iload_n 96 (i := 2) dM_clumpOf_95 rfl rfl rfl ?_
          refine g_istore_n 97 (i := 2) [some (.ref v0), none, some (.int v2), some (.int v3), some (.int v4), some (.int v5)] dM_clumpOf_96 rfl rfl rfl (by decide) ?_
          refine g_iinc 100 [some (.ref v0), none, some (.int v2), some (.int v3), some (.int v4), some (.int (v5 + (1 : Int32)))] dM_clumpOf_97 rfl rfl (x_inc (1 : Int32) (by decide)) rfl (by decide) ?_
          refine g_goto 43 dM_clumpOf_100 (by decide) ?_
          exact ih _ _ _ _ _ _ h
set_option maxHeartbeats 4000000 in
set_option maxRecDepth 100000 in
theorem lM_clumpOf_31 (d : Nat) (hd : 6 ≤ d) {K : Option Value → x_W → Prop} {r : (Int32 × x_W)} (hK : K (some (.int r.1)) r.2) {k21 : x_W → Nat → Int32 → Int32 → Option (Int32 × x_W)} (hk21 : ∀ (w : x_W) (v0 : Nat) (v2 : Int32) (v3 : Int32), k21 w v0 v2 v3 = some r → x_G none yM_clumpOf cM_clumpOf 6 (some .int) (x_room d 0 0) (x_QM K 0 0) 21 [some (.ref v0), none, some (.int v2), some (.int v3), none, none] [] w 0 0) : ∀ (n : Nat) (w : x_W) (v0 : Nat) (v2 : Int32) (v3 : Int32) (v4 : Int32), fM_clumpOf_31 k21 n w v0 v2 v3 v4 = some r → x_G none yM_clumpOf cM_clumpOf 6 (some .int) (x_room d 0 0) (x_QM K 0 0) 31 [some (.ref v0), none, some (.int v2), some (.int v3), some (.int v4), none] [] w 0 0 := by
  intro n
  induction n with
  | zero => intro w v0 v2 v3 v4 h; rw [fM_clumpOf_31] at h; cases h
  | succ n ih =>
    intro w v0 v2 v3 v4 h
    rw [fM_clumpOf_31] at h
    refine g_iload 33 dM_clumpOf_31 rfl rfl ?_
    refine g_aload_n 34 (i := 0) dM_clumpOf_33 rfl rfl rfl ?_
    obtain ⟨_, e1, h⟩ := x_bind h
    obtain ⟨t2, e2, h⟩ := x_bind h
    refine g_cV 37 (some (.int t2)) w [] [.int v4] dM_clumpOf_34 rfl (fun _ hK2 => mM_n (d - 1) (by omega) e2 hK2) (x_ob_some e1) kM_44 (x_rm (Nat.le_trans (by decide) hd) (by decide)) ⟨Nat.zero_le _, Nat.zero_le _⟩ (Nat.le_of_ble_eq_true rfl) rfl ?_
    by_cases c3 : t2 ≤ v4
    · rw [if_pos c3] at h
      refine g_icmp_ge_t 109 dM_clumpOf_37 (by decide) c3 ?_
      refine g_goto 21 dM_clumpOf_109 (by decide) ?_
      refine g_less [some (.ref v0), none, some (.int v2), some (.int v3), none, none] ⟨rfl, rfl, rfl, trivial⟩ ?_
      exact hk21 _ _ _ _ h
    · rw [if_neg c3] at h
      refine g_icmp_ge_f 40 109 dM_clumpOf_37 (by decide) rfl c3 ?_
      refine g_iconst 41 (0 : Int32) dM_clumpOf_40 rfl (by decide) ?_
      refine g_istore 43 [some (.ref v0), none, some (.int v2), some (.int v3), some (.int v4), some (.int (0 : Int32))] dM_clumpOf_41 rfl rfl (by decide) ?_
      exact lM_clumpOf_43 d hd hK hk21 (fun _ _ _ _ _ hz => ih _ _ _ _ _ hz) x_F _ _ _ _ _ _ h
set_option maxHeartbeats 4000000 in
set_option maxRecDepth 100000 in
theorem lM_clumpOf_21 (d : Nat) (hd : 6 ≤ d) {K : Option Value → x_W → Prop} {r : (Int32 × x_W)} (hK : K (some (.int r.1)) r.2) : ∀ (n : Nat) (w : x_W) (v0 : Nat) (v2 : Int32) (v3 : Int32), fM_clumpOf_21 n w v0 v2 v3 = some r → x_G none yM_clumpOf cM_clumpOf 6 (some .int) (x_room d 0 0) (x_QM K 0 0) 21 [some (.ref v0), none, some (.int v2), some (.int v3), none, none] [] w 0 0 := by
  intro n
  induction n with
  | zero => intro w v0 v2 v3 h; rw [fM_clumpOf_21] at h; cases h
  | succ n ih =>
    intro w v0 v2 v3 h
    rw [fM_clumpOf_21] at h
    refine g_iload_n 22 (i := 2) dM_clumpOf_21 rfl rfl rfl ?_
    refine g_iload_n 23 (i := 3) dM_clumpOf_22 rfl rfl rfl ?_
    by_cases c1 : v2 = v3
    · rw [if_pos c1] at h
      refine g_icmp_eq_t 112 dM_clumpOf_23 (by decide) c1 ?_
      refine g_iload_n 113 (i := 2) dM_clumpOf_112 rfl rfl rfl ?_
      obtain rfl := Option.some.inj h
      exact g_iret rfl dM_clumpOf_113 hK
    · rw [if_neg c1] at h
      refine g_icmp_eq_f 26 112 dM_clumpOf_23 (by decide) rfl c1 ?_
      refine g_iload_n 27 (i := 2) dM_clumpOf_26 rfl rfl rfl ?_
      refine g_istore_n 28 (i := 3) [some (.ref v0), none, some (.int v2), some (.int v2), none, none] dM_clumpOf_27 rfl rfl rfl (by decide) ?_
      refine g_iconst 29 (0 : Int32) dM_clumpOf_28 rfl (by decide) ?_
      refine g_istore 31 [some (.ref v0), none, some (.int v2), some (.int v2), some (.int (0 : Int32)), none] dM_clumpOf_29 rfl rfl (by decide) ?_
      exact lM_clumpOf_31 d hd hK (fun _ _ _ _ hz => ih _ _ _ _ hz) x_F _ _ _ _ _ h
set_option maxHeartbeats 4000000 in
set_option maxRecDepth 100000 in
theorem mM_clumpOf (d : Nat) (hd : 6 ≤ d) {K : Option Value → x_W → Prop} {w : x_W} {v0 : Nat} {v1 : Int32} {r : (Int32 × x_W)} (h : fM_clumpOf w v0 v1 = some r) (hK : K (some (.int r.1)) r.2) : x_M yM_clumpOf cM_clumpOf 6 (some .int) d 0 0 [.ref v0, .int v1] w K := by
  refine x_M.of [some (.ref v0), some (.int v1), none, none, none, none] (by decide) rfl (Nat.le_of_ble_eq_true rfl) ?_
  unfold fM_clumpOf at h
  refine g_aload_n 1 (i := 0) dM_clumpOf_0 rfl rfl rfl ?_
  obtain ⟨t1, e1, h⟩ := x_bind h
  refine g_getfR 4 5 3 dM_clumpOf_1 rfl x_in5 tw_2_238 rfl (by decide) e1 ?_
  refine g_iconst 5 (0 : Int32) dM_clumpOf_4 rfl (by decide) ?_
  obtain ⟨t2, e2, h⟩ := x_bind h
  refine g_iald 6 dM_clumpOf_5 rfl e2 ?_
  refine g_iload_n 7 (i := 1) dM_clumpOf_6 rfl rfl rfl ?_
  refine g_cS 10 (some (.int (fM_has t2 v1))) w [.int t2, .int v1] [] dM_clumpOf_7 rfl (fun _ hK2 => mM_has (d - 1) (by omega) rfl hK2) kM_62 (x_rm (Nat.le_trans (by decide) hd) (by decide)) ⟨Nat.zero_le _, Nat.zero_le _⟩ (Nat.le_of_ble_eq_true rfl) rfl ?_
  by_cases c3 : (fM_has t2 v1) = (0 : Int32)
  · rw [if_pos c3] at h
    refine g_if_eq_t 15 dM_clumpOf_10 (by decide) c3 ?_
    refine g_iconst 16 (1 : Int32) dM_clumpOf_15 rfl (by decide) ?_
    refine g_iload_n 17 (i := 1) dM_clumpOf_16 rfl rfl rfl ?_
    refine g_ishl 18 dM_clumpOf_17 rfl ?_
    refine g_istore_n 19 (i := 2) [some (.ref v0), some (.int v1), some (.int ((1 : Int32) <<< (v1 &&& 31))), none, none, none] dM_clumpOf_18 rfl rfl rfl (by decide) ?_
    refine g_iconst 20 (0 : Int32) dM_clumpOf_19 rfl (by decide) ?_
    refine g_istore_n 21 (i := 3) [some (.ref v0), some (.int v1), some (.int ((1 : Int32) <<< (v1 &&& 31))), some (.int (0 : Int32)), none, none] dM_clumpOf_20 rfl rfl rfl (by decide) ?_
    refine g_less [some (.ref v0), none, some (.int ((1 : Int32) <<< (v1 &&& 31))), some (.int (0 : Int32)), none, none] ⟨rfl, rfl, rfl, trivial⟩ ?_
    exact lM_clumpOf_21 d hd hK x_F _ _ _ _ h
  · rw [if_neg c3] at h
    refine g_if_eq_f 13 15 dM_clumpOf_10 (by decide) rfl c3 ?_
    refine g_iconst 14 (0 : Int32) dM_clumpOf_13 rfl (by decide) ?_
    obtain rfl := Option.some.inj h
    exact g_iret rfl dM_clumpOf_14 hK
/-! ActSurgeryModel.clumps()I: level X -/
theorem dM_clumps_0 : decode cM_clumps 0 = .ok (.iconst 0, 1) := by decide +kernel
theorem dM_clumps_1 : decode cM_clumps 1 = .ok (.istore_n 1, 1) := by decide +kernel
theorem dM_clumps_2 : decode cM_clumps 2 = .ok (.iconst 0, 1) := by decide +kernel
theorem dM_clumps_3 : decode cM_clumps 3 = .ok (.istore_n 2, 1) := by decide +kernel
theorem dM_clumps_4 : decode cM_clumps 4 = .ok (.iload_n 2, 1) := by decide +kernel
theorem dM_clumps_5 : decode cM_clumps 5 = .ok (.aload_n 0, 1) := by decide +kernel
theorem dM_clumps_6 : decode cM_clumps 6 = .ok (.invokevirtual 44, 3) := by decide +kernel
theorem dM_clumps_9 : decode cM_clumps 9 = .ok (.if_icmp .ge 37, 3) := by decide +kernel
theorem dM_clumps_12 : decode cM_clumps 12 = .ok (.aload_n 0, 1) := by decide +kernel
theorem dM_clumps_13 : decode cM_clumps 13 = .ok (.iload_n 2, 1) := by decide +kernel
theorem dM_clumps_14 : decode cM_clumps 14 = .ok (.invokevirtual 128, 3) := by decide +kernel
theorem dM_clumps_17 : decode cM_clumps 17 = .ok (.istore_n 3, 1) := by decide +kernel
theorem dM_clumps_18 : decode cM_clumps 18 = .ok (.iload_n 3, 1) := by decide +kernel
theorem dM_clumps_19 : decode cM_clumps 19 = .ok (.ifCond .eq 19, 3) := by decide +kernel
theorem dM_clumps_22 : decode cM_clumps 22 = .ok (.iload_n 3, 1) := by decide +kernel
theorem dM_clumps_23 : decode cM_clumps 23 = .ok (.iconst 1, 1) := by decide +kernel
theorem dM_clumps_24 : decode cM_clumps 24 = .ok (.iload_n 2, 1) := by decide +kernel
theorem dM_clumps_25 : decode cM_clumps 25 = .ok (.ishl, 1) := by decide +kernel
theorem dM_clumps_26 : decode cM_clumps 26 = .ok (.iconst 1, 1) := by decide +kernel
theorem dM_clumps_27 : decode cM_clumps 27 = .ok (.isub, 1) := by decide +kernel
theorem dM_clumps_28 : decode cM_clumps 28 = .ok (.iand, 1) := by decide +kernel
theorem dM_clumps_29 : decode cM_clumps 29 = .ok (.ifCond .ne 9, 3) := by decide +kernel
theorem dM_clumps_32 : decode cM_clumps 32 = .ok (.iload_n 1, 1) := by decide +kernel
theorem dM_clumps_33 : decode cM_clumps 33 = .ok (.iconst 1, 1) := by decide +kernel
theorem dM_clumps_34 : decode cM_clumps 34 = .ok (.iadd, 1) := by decide +kernel
theorem dM_clumps_35 : decode cM_clumps 35 = .ok (.goto 4, 3) := by decide +kernel
theorem dM_clumps_38 : decode cM_clumps 38 = .ok (.iload_n 1, 1) := by decide +kernel
theorem dM_clumps_39 : decode cM_clumps 39 = .ok (.istore_n 1, 1) := by decide +kernel
theorem dM_clumps_40 : decode cM_clumps 40 = .ok (.iinc 2 1, 3) := by decide +kernel
theorem dM_clumps_43 : decode cM_clumps 43 = .ok (.goto (-39), 3) := by decide +kernel
theorem dM_clumps_46 : decode cM_clumps 46 = .ok (.iload_n 1, 1) := by decide +kernel
theorem dM_clumps_47 : decode cM_clumps 47 = .ok (.ireturn, 1) := by decide +kernel
theorem tw_3_162 : (Jvm.Cond.instanceMethod ({ cls := "ActSurgeryModel", name := "clumpOf", desc := "(I)I" } : Jvm.MethodName)) ∈ x_GT := x_t3 162 rfl rfl
theorem tws_48 : (Jvm.Cond.selects "ActSurgeryModel" ({ cls := "ActSurgeryModel", name := "clumpOf", desc := "(I)I" } : Jvm.MethodName) ({ cls := "ActSurgeryModel", name := "clumpOf", desc := "(I)I" } : Jvm.MethodName)) ∈ x_GT := x_ts 48 rfl rfl
theorem tw_3_163 : (Jvm.Cond.code ({ cls := "ActSurgeryModel", name := "clumpOf", desc := "(I)I" } : Jvm.MethodName) prog_7_method_37_code (6 : Nat) (Option.some Jvm.ClassFile.FieldType.int)) ∈ x_GT := x_t3 163 rfl rfl
theorem tw_3_160 : (Jvm.Cond.methodLink "ActSurgeryModel" (128 : Nat) ({ cls := "ActSurgeryModel", name := "clumpOf", desc := "(I)I" } : Jvm.MethodName)) ∈ x_GT := x_t3 160 rfl rfl
theorem kM_128 : x_kV "ActSurgeryModel" 128 yM_clumpOf cM_clumpOf 6 (some .int) 1 5 := ⟨tw_3_162, tws_48, tw_3_163, tw_1_6, tw_3_160, (by decide +kernel), rfl⟩
def fM_clumps_4  : Nat → x_W → Nat → Int32 → Int32 → Option (Int32 × x_W)
  | 0, _, _, _, _ => none
  | n + 1, w, v0, v1, v2 =>
    (x_ob w v0 5).bind fun _ =>
    (fM_n w v0).bind fun t2 =>
    if t2 ≤ v2 then
      some (v1, w)
    else
      (fM_clumpOf w v0 v2).bind fun q4 =>
      if q4.1 = (0 : Int32) then
        fM_clumps_4 n q4.2 v0 v1 (v2 + (1 : Int32))
      else
        if (q4.1 &&& (((1 : Int32) <<< (v2 &&& 31)) - (1 : Int32))) = (0 : Int32) then
          fM_clumps_4 n q4.2 v0 (v1 + (1 : Int32)) (v2 + (1 : Int32))
        else
          fM_clumps_4 n q4.2 v0 v1 (v2 + (1 : Int32))
def fM_clumps  (w : x_W) (v0 : Nat) : Option (Int32 × x_W) :=
  fM_clumps_4 x_F w v0 (0 : Int32) (0 : Int32)
set_option maxHeartbeats 4000000 in
set_option maxRecDepth 100000 in
theorem lM_clumps_4 (d : Nat) (hd : 7 ≤ d) {K : Option Value → x_W → Prop} {r : (Int32 × x_W)} (hK : K (some (.int r.1)) r.2) : ∀ (n : Nat) (w : x_W) (v0 : Nat) (v1 : Int32) (v2 : Int32), fM_clumps_4 n w v0 v1 v2 = some r → x_G none yM_clumps cM_clumps 4 (some .int) (x_room d 0 0) (x_QM K 0 0) 4 [some (.ref v0), some (.int v1), some (.int v2), none] [] w 0 0 := by
  intro n
  induction n with
  | zero => intro w v0 v1 v2 h; rw [fM_clumps_4] at h; cases h
  | succ n ih =>
    intro w v0 v1 v2 h
    rw [fM_clumps_4] at h
    refine g_iload_n 5 (i := 2) dM_clumps_4 rfl rfl rfl ?_
    refine g_aload_n 6 (i := 0) dM_clumps_5 rfl rfl rfl ?_
    obtain ⟨_, e1, h⟩ := x_bind h
    obtain ⟨t2, e2, h⟩ := x_bind h
    refine g_cV 9 (some (.int t2)) w [] [.int v2] dM_clumps_6 rfl (fun _ hK2 => mM_n (d - 1) (by omega) e2 hK2) (x_ob_some e1) kM_44 (x_rm (Nat.le_trans (by decide) hd) (by decide)) ⟨Nat.zero_le _, Nat.zero_le _⟩ (Nat.le_of_ble_eq_true rfl) rfl ?_
    by_cases c3 : t2 ≤ v2
    · rw [if_pos c3] at h
      refine g_icmp_ge_t 46 dM_clumps_9 (by decide) c3 ?_
      refine g_iload_n 47 (i := 1) dM_clumps_46 rfl rfl rfl ?_
      obtain rfl := Option.some.inj h
      exact g_iret rfl dM_clumps_47 hK
    · rw [if_neg c3] at h
      refine g_icmp_ge_f 12 46 dM_clumps_9 (by decide) rfl c3 ?_
      refine g_aload_n 13 (i := 0) dM_clumps_12 rfl rfl rfl ?_
      refine g_iload_n 14 (i := 2) dM_clumps_13 rfl rfl rfl ?_
      obtain ⟨q4, e4, h⟩ := x_bind h
      refine g_cV 17 (some (.int q4.1)) q4.2 [.int v2] [] dM_clumps_14 rfl (fun _ hK2 => mM_clumpOf (d - 1) (by omega) e4 hK2) (x_ob_some e1) kM_128 (x_rm (Nat.le_trans (by decide) hd) (by decide)) ⟨Nat.zero_le _, Nat.zero_le _⟩ (Nat.le_of_ble_eq_true rfl) rfl ?_
      refine g_istore_n 18 (i := 3) [some (.ref v0), some (.int v1), some (.int v2), some (.int q4.1)] dM_clumps_17 rfl rfl rfl (by decide) ?_
      refine g_iload_n 19 (i := 3) dM_clumps_18 rfl rfl rfl ?_
      by_cases c5 : q4.1 = (0 : Int32)
      · rw [if_pos c5] at h
        refine g_if_eq_t 38 dM_clumps_19 (by decide) c5 ?_
        refine g_iload_n 39 (i := 1) dM_clumps_38 rfl rfl rfl ?_
        refine g_istore_n 40 (i := 1) [some (.ref v0), some (.int v1), some (.int v2), some (.int q4.1)] dM_clumps_39 rfl rfl rfl (by decide) ?_
        refine g_iinc 43 [some (.ref v0), some (.int v1), some (.int (v2 + (1 : Int32))), some (.int q4.1)] dM_clumps_40 rfl rfl (x_inc (1 : Int32) (by decide)) rfl (by decide) ?_
        refine g_goto 4 dM_clumps_43 (by decide) ?_
        refine g_less [some (.ref v0), some (.int v1), some (.int (v2 + (1 : Int32))), none] ⟨rfl, rfl, rfl, trivial⟩ ?_
        exact ih _ _ _ _ h
      · rw [if_neg c5] at h
        refine g_if_eq_f 22 38 dM_clumps_19 (by decide) rfl c5 ?_
        refine g_iload_n 23 (i := 3) dM_clumps_22 rfl rfl rfl ?_
        refine g_iconst 24 (1 : Int32) dM_clumps_23 rfl (by decide) ?_
        refine g_iload_n 25 (i := 2) dM_clumps_24 rfl rfl rfl ?_
        refine g_ishl 26 dM_clumps_25 rfl ?_
        refine g_iconst 27 (1 : Int32) dM_clumps_26 rfl (by decide) ?_
        refine g_isub 28 dM_clumps_27 rfl ?_
        refine g_iand 29 dM_clumps_28 rfl ?_
        by_cases c6 : (q4.1 &&& (((1 : Int32) <<< (v2 &&& 31)) - (1 : Int32))) = (0 : Int32)
        · rw [if_pos c6] at h
          refine g_if_ne_f 32 38 dM_clumps_29 (by decide) rfl c6 ?_
          refine g_iload_n 33 (i := 1) dM_clumps_32 rfl rfl rfl ?_
          refine g_iconst 34 (1 : Int32) dM_clumps_33 rfl (by decide) ?_
          refine g_iadd 35 dM_clumps_34 rfl ?_
          refine g_goto 39 dM_clumps_35 (by decide) ?_
          refine g_istore_n 40 (i := 1) [some (.ref v0), some (.int (v1 + (1 : Int32))), some (.int v2), some (.int q4.1)] dM_clumps_39 rfl rfl rfl (by decide) ?_
          refine g_iinc 43 [some (.ref v0), some (.int (v1 + (1 : Int32))), some (.int (v2 + (1 : Int32))), some (.int q4.1)] dM_clumps_40 rfl rfl (x_inc (1 : Int32) (by decide)) rfl (by decide) ?_
          refine g_goto 4 dM_clumps_43 (by decide) ?_
          refine g_less [some (.ref v0), some (.int (v1 + (1 : Int32))), some (.int (v2 + (1 : Int32))), none] ⟨rfl, rfl, rfl, trivial⟩ ?_
          exact ih _ _ _ _ h
        · rw [if_neg c6] at h
          refine g_if_ne_t 38 dM_clumps_29 (by decide) c6 ?_
          refine g_iload_n 39 (i := 1) dM_clumps_38 rfl rfl rfl ?_
          refine g_istore_n 40 (i := 1) [some (.ref v0), some (.int v1), some (.int v2), some (.int q4.1)] dM_clumps_39 rfl rfl rfl (by decide) ?_
          refine g_iinc 43 [some (.ref v0), some (.int v1), some (.int (v2 + (1 : Int32))), some (.int q4.1)] dM_clumps_40 rfl rfl (x_inc (1 : Int32) (by decide)) rfl (by decide) ?_
          refine g_goto 4 dM_clumps_43 (by decide) ?_
          refine g_less [some (.ref v0), some (.int v1), some (.int (v2 + (1 : Int32))), none] ⟨rfl, rfl, rfl, trivial⟩ ?_
          exact ih _ _ _ _ h
set_option maxHeartbeats 4000000 in
set_option maxRecDepth 100000 in
theorem mM_clumps (d : Nat) (hd : 7 ≤ d) {K : Option Value → x_W → Prop} {w : x_W} {v0 : Nat} {r : (Int32 × x_W)} (h : fM_clumps w v0 = some r) (hK : K (some (.int r.1)) r.2) : x_M yM_clumps cM_clumps 4 (some .int) d 0 0 [.ref v0] w K := by
  refine x_M.of [some (.ref v0), none, none, none] (by decide) rfl (Nat.le_of_ble_eq_true rfl) ?_
  unfold fM_clumps at h
  refine g_iconst 1 (0 : Int32) dM_clumps_0 rfl (by decide) ?_
  refine g_istore_n 2 (i := 1) [some (.ref v0), some (.int (0 : Int32)), none, none] dM_clumps_1 rfl rfl rfl (by decide) ?_
  refine g_iconst 3 (0 : Int32) dM_clumps_2 rfl (by decide) ?_
  refine g_istore_n 4 (i := 2) [some (.ref v0), some (.int (0 : Int32)), some (.int (0 : Int32)), none] dM_clumps_3 rfl rfl rfl (by decide) ?_
  exact lM_clumps_4 d hd hK x_F _ _ _ _ h
/-! ActSurgeryModel.told(I)I: level X -/
theorem dM_told_0 : decode cM_told 0 = .ok (.aload_n 0, 1) := by decide +kernel
theorem dM_told_1 : decode cM_told 1 = .ok (.iload_n 1, 1) := by decide +kernel
theorem dM_told_2 : decode cM_told 2 = .ok (.invokevirtual 55, 3) := by decide +kernel
theorem dM_told_5 : decode cM_told 5 = .ok (.ifCond .eq 16, 3) := by decide +kernel
theorem dM_told_8 : decode cM_told 8 = .ok (.aload_n 0, 1) := by decide +kernel
theorem dM_told_9 : decode cM_told 9 = .ok (.getfield 19, 3) := by decide +kernel
theorem dM_told_12 : decode cM_told 12 = .ok (.iconst 0, 1) := by decide +kernel
theorem dM_told_13 : decode cM_told 13 = .ok (.iaload, 1) := by decide +kernel
theorem dM_told_14 : decode cM_told 14 = .ok (.iload_n 1, 1) := by decide +kernel
theorem dM_told_15 : decode cM_told 15 = .ok (.invokestatic 62, 3) := by decide +kernel
theorem dM_told_18 : decode cM_told 18 = .ok (.ifCond .eq 6, 3) := by decide +kernel
theorem dM_told_21 : decode cM_told 21 = .ok (.bipush (-2), 2) := by decide +kernel
theorem dM_told_23 : decode cM_told 23 = .ok (.ireturn, 1) := by decide +kernel
theorem dM_told_24 : decode cM_told 24 = .ok (.aload_n 0, 1) := by decide +kernel
theorem dM_told_25 : decode cM_told 25 = .ok (.iconst 0, 1) := by decide +kernel
theorem dM_told_26 : decode cM_told 26 = .ok (.putfield 66, 3) := by decide +kernel
theorem dM_told_29 : decode cM_told 29 = .ok (.aload_n 0, 1) := by decide +kernel
theorem dM_told_30 : decode cM_told 30 = .ok (.iload_n 1, 1) := by decide +kernel
theorem dM_told_31 : decode cM_told 31 = .ok (.aload_n 0, 1) := by decide +kernel
theorem dM_told_32 : decode cM_told 32 = .ok (.getfield 19, 3) := by decide +kernel
theorem dM_told_35 : decode cM_told 35 = .ok (.iconst 0, 1) := by decide +kernel
theorem dM_told_36 : decode cM_told 36 = .ok (.iaload, 1) := by decide +kernel
theorem dM_told_37 : decode cM_told 37 = .ok (.invokevirtual 77, 3) := by decide +kernel
theorem dM_told_40 : decode cM_told 40 = .ok (.aload_n 0, 1) := by decide +kernel
theorem dM_told_41 : decode cM_told 41 = .ok (.getfield 19, 3) := by decide +kernel
theorem dM_told_44 : decode cM_told 44 = .ok (.iconst 0, 1) := by decide +kernel
theorem dM_told_45 : decode cM_told 45 = .ok (.iaload, 1) := by decide +kernel
theorem dM_told_46 : decode cM_told 46 = .ok (.iconst (-1), 1) := by decide +kernel
theorem dM_told_47 : decode cM_told 47 = .ok (.ixor, 1) := by decide +kernel
theorem dM_told_48 : decode cM_told 48 = .ok (.iand, 1) := by decide +kernel
theorem dM_told_49 : decode cM_told 49 = .ok (.istore_n 2, 1) := by decide +kernel
theorem dM_told_50 : decode cM_told 50 = .ok (.iload_n 2, 1) := by decide +kernel
theorem dM_told_51 : decode cM_told 51 = .ok (.aload_n 0, 1) := by decide +kernel
theorem dM_told_52 : decode cM_told 52 = .ok (.iload_n 1, 1) := by decide +kernel
theorem dM_told_53 : decode cM_told 53 = .ok (.invokevirtual 128, 3) := by decide +kernel
theorem dM_told_56 : decode cM_told 56 = .ok (.iand, 1) := by decide +kernel
theorem dM_told_57 : decode cM_told 57 = .ok (.ifCond .ne 7, 3) := by decide +kernel
theorem dM_told_60 : decode cM_told 60 = .ok (.iconst 1, 1) := by decide +kernel
theorem dM_told_61 : decode cM_told 61 = .ok (.goto 4, 3) := by decide +kernel
theorem dM_told_64 : decode cM_told 64 = .ok (.iconst 0, 1) := by decide +kernel
theorem dM_told_65 : decode cM_told 65 = .ok (.ireturn, 1) := by decide +kernel
def fM_told  (w : x_W) (v0 : Nat) (v1 : Int32) : Option (Int32 × x_W) :=
  (x_ob w v0 5).bind fun _ =>
  (fM_isPlace w v0 v1).bind fun t2 =>
  if t2 = (0 : Int32) then
    some ((-2 : Int32), w)
  else
    (x_fr w v0 5 3).bind fun t4 =>
    (x_ai w t4 (0 : Int32)).bind fun t5 =>
    if (fM_has t5 v1) = (0 : Int32) then
      (x_pf w v0 5 4 (.int (0 : Int32))).bind fun w7 =>
      (x_fr w7 v0 5 3).bind fun t8 =>
      (x_ai w7 t8 (0 : Int32)).bind fun t9 =>
      (fM_reach w7 v0 v1 t9).bind fun t10 =>
      (fM_clumpOf w7 v0 v1).bind fun q11 =>
      if ((t10 &&& (t9 ^^^ (-1 : Int32))) &&& q11.1) = (0 : Int32) then
        some ((1 : Int32), q11.2)
      else
        some ((0 : Int32), q11.2)
    else
      some ((-2 : Int32), w)
set_option maxHeartbeats 4000000 in
set_option maxRecDepth 100000 in
theorem mM_told (d : Nat) (hd : 7 ≤ d) {K : Option Value → x_W → Prop} {w : x_W} {v0 : Nat} {v1 : Int32} {r : (Int32 × x_W)} (h : fM_told w v0 v1 = some r) (hK : K (some (.int r.1)) r.2) : x_M yM_told cM_told 3 (some .int) d 0 0 [.ref v0, .int v1] w K := by
  refine x_M.of [some (.ref v0), some (.int v1), none] (by decide) rfl (Nat.le_of_ble_eq_true rfl) ?_
  unfold fM_told at h
  refine g_aload_n 1 (i := 0) dM_told_0 rfl rfl rfl ?_
  refine g_iload_n 2 (i := 1) dM_told_1 rfl rfl rfl ?_
  obtain ⟨_, e1, h⟩ := x_bind h
  obtain ⟨t2, e2, h⟩ := x_bind h
  refine g_cV 5 (some (.int t2)) w [.int v1] [] dM_told_2 rfl (fun _ hK2 => mM_isPlace (d - 1) (by omega) e2 hK2) (x_ob_some e1) kM_55 (x_rm (Nat.le_trans (by decide) hd) (by decide)) ⟨Nat.zero_le _, Nat.zero_le _⟩ (Nat.le_of_ble_eq_true rfl) rfl ?_
  by_cases c3 : t2 = (0 : Int32)
  · rw [if_pos c3] at h
    refine g_if_eq_t 21 dM_told_5 (by decide) c3 ?_
    refine g_bipush 23 (-2 : Int32) dM_told_21 rfl (by decide) ?_
    obtain rfl := Option.some.inj h
    exact g_iret rfl dM_told_23 hK
  · rw [if_neg c3] at h
    refine g_if_eq_f 8 21 dM_told_5 (by decide) rfl c3 ?_
    refine g_aload_n 9 (i := 0) dM_told_8 rfl rfl rfl ?_
    obtain ⟨t4, e4, h⟩ := x_bind h
    refine g_getfR 12 5 3 dM_told_9 rfl x_in5 tw_2_238 rfl (by decide) e4 ?_
    refine g_iconst 13 (0 : Int32) dM_told_12 rfl (by decide) ?_
    obtain ⟨t5, e5, h⟩ := x_bind h
    refine g_iald 14 dM_told_13 rfl e5 ?_
    refine g_iload_n 15 (i := 1) dM_told_14 rfl rfl rfl ?_
    refine g_cS 18 (some (.int (fM_has t5 v1))) w [.int t5, .int v1] [] dM_told_15 rfl (fun _ hK2 => mM_has (d - 1) (by omega) rfl hK2) kM_62 (x_rm (Nat.le_trans (by decide) hd) (by decide)) ⟨Nat.zero_le _, Nat.zero_le _⟩ (Nat.le_of_ble_eq_true rfl) rfl ?_
    by_cases c6 : (fM_has t5 v1) = (0 : Int32)
    · rw [if_pos c6] at h
      refine g_if_eq_t 24 dM_told_18 (by decide) c6 ?_
      refine g_aload_n 25 (i := 0) dM_told_24 rfl rfl rfl ?_
      refine g_iconst 26 (0 : Int32) dM_told_25 rfl (by decide) ?_
      obtain ⟨w7, e7, h⟩ := x_bind h
      refine g_putf 29 5 4 xy5 xy5_ok xn5 dM_told_26 rfl x_in5 tw_2_239 rfl (by decide) rfl (fun _ _ => ⟨rfl, rfl⟩) e7 ?_
      refine g_aload_n 30 (i := 0) dM_told_29 rfl rfl rfl ?_
      refine g_iload_n 31 (i := 1) dM_told_30 rfl rfl rfl ?_
      refine g_aload_n 32 (i := 0) dM_told_31 rfl rfl rfl ?_
      obtain ⟨t8, e8, h⟩ := x_bind h
      refine g_getfR 35 5 3 dM_told_32 rfl x_in5 tw_2_238 rfl (by decide) e8 ?_
      refine g_iconst 36 (0 : Int32) dM_told_35 rfl (by decide) ?_
      obtain ⟨t9, e9, h⟩ := x_bind h
      refine g_iald 37 dM_told_36 rfl e9 ?_
      obtain ⟨t10, e10, h⟩ := x_bind h
      refine g_cV 40 (some (.int t10)) w7 [.int v1, .int t9] [] dM_told_37 rfl (fun _ hK2 => mM_reach (d - 1) (by omega) e10 hK2) (x_fr_ob e8) kM_77 (x_rm (Nat.le_trans (by decide) hd) (by decide)) ⟨Nat.zero_le _, Nat.zero_le _⟩ (Nat.le_of_ble_eq_true rfl) rfl ?_
      refine g_aload_n 41 (i := 0) dM_told_40 rfl rfl rfl ?_
      refine g_getfR 44 5 3 dM_told_41 rfl x_in5 tw_2_238 rfl (by decide) e8 ?_
      refine g_iconst 45 (0 : Int32) dM_told_44 rfl (by decide) ?_
      refine g_iald 46 dM_told_45 rfl e9 ?_
      refine g_iconst 47 (-1 : Int32) dM_told_46 rfl (by decide) ?_
      refine g_ixor 48 dM_told_47 rfl ?_
      refine g_iand 49 dM_told_48 rfl ?_
      refine g_istore_n 50 (i := 2) [some (.ref v0), some (.int v1), some (.int (t10 &&& (t9 ^^^ (-1 : Int32))))] dM_told_49 rfl rfl rfl (by decide) ?_
      refine g_iload_n 51 (i := 2) dM_told_50 rfl rfl rfl ?_
      refine g_aload_n 52 (i := 0) dM_told_51 rfl rfl rfl ?_
      refine g_iload_n 53 (i := 1) dM_told_52 rfl rfl rfl ?_
      obtain ⟨q11, e11, h⟩ := x_bind h
      refine g_cV 56 (some (.int q11.1)) q11.2 [.int v1] [.int (t10 &&& (t9 ^^^ (-1 : Int32)))] dM_told_53 rfl (fun _ hK2 => mM_clumpOf (d - 1) (by omega) e11 hK2) (x_fr_ob e8) kM_128 (x_rm (Nat.le_trans (by decide) hd) (by decide)) ⟨Nat.zero_le _, Nat.zero_le _⟩ (Nat.le_of_ble_eq_true rfl) rfl ?_
      refine g_iand 57 dM_told_56 rfl ?_
      by_cases c12 : ((t10 &&& (t9 ^^^ (-1 : Int32))) &&& q11.1) = (0 : Int32)
      · rw [if_pos c12] at h
        refine g_if_ne_f 60 64 dM_told_57 (by decide) rfl c12 ?_
        refine g_iconst 61 (1 : Int32) dM_told_60 rfl (by decide) ?_
        refine g_goto 65 dM_told_61 (by decide) ?_
        obtain rfl := Option.some.inj h
        exact g_iret rfl dM_told_65 hK
      · rw [if_neg c12] at h
        refine g_if_ne_t 64 dM_told_57 (by decide) c12 ?_
        refine g_iconst 65 (0 : Int32) dM_told_64 rfl (by decide) ?_
        obtain rfl := Option.some.inj h
        exact g_iret rfl dM_told_65 hK
    · rw [if_neg c6] at h
      refine g_if_eq_f 21 24 dM_told_18 (by decide) rfl c6 ?_
      refine g_bipush 23 (-2 : Int32) dM_told_21 rfl (by decide) ?_
      obtain rfl := Option.some.inj h
      exact g_iret rfl dM_told_23 hK
/-! ActSurgeryModel.meets([IIIII)Z: level P -/
theorem dM_meets_0 : decode cM_meets 0 = .ok (.aload_n 0, 1) := by decide +kernel
theorem dM_meets_1 : decode cM_meets 1 = .ok (.iload_n 1, 1) := by decide +kernel
theorem dM_meets_2 : decode cM_meets 2 = .ok (.iload_n 2, 1) := by decide +kernel
theorem dM_meets_3 : decode cM_meets 3 = .ok (.iadd, 1) := by decide +kernel
theorem dM_meets_4 : decode cM_meets 4 = .ok (.iaload, 1) := by decide +kernel
theorem dM_meets_5 : decode cM_meets 5 = .ok (.iload_n 3, 1) := by decide +kernel
theorem dM_meets_6 : decode cM_meets 6 = .ok (.invokestatic 62, 3) := by decide +kernel
theorem dM_meets_9 : decode cM_meets 9 = .ok (.ifCond .ne 15, 3) := by decide +kernel
theorem dM_meets_12 : decode cM_meets 12 = .ok (.aload_n 0, 1) := by decide +kernel
theorem dM_meets_13 : decode cM_meets 13 = .ok (.iload_n 1, 1) := by decide +kernel
theorem dM_meets_14 : decode cM_meets 14 = .ok (.iload_n 3, 1) := by decide +kernel
theorem dM_meets_15 : decode cM_meets 15 = .ok (.iadd, 1) := by decide +kernel
theorem dM_meets_16 : decode cM_meets 16 = .ok (.iaload, 1) := by decide +kernel
theorem dM_meets_17 : decode cM_meets 17 = .ok (.iload_n 2, 1) := by decide +kernel
theorem dM_meets_18 : decode cM_meets 18 = .ok (.invokestatic 62, 3) := by decide +kernel
theorem dM_meets_21 : decode cM_meets 21 = .ok (.ifCond .eq 7, 3) := by decide +kernel
theorem dM_meets_24 : decode cM_meets 24 = .ok (.iconst 1, 1) := by decide +kernel
theorem dM_meets_25 : decode cM_meets 25 = .ok (.goto 4, 3) := by decide +kernel
theorem dM_meets_28 : decode cM_meets 28 = .ok (.iconst 0, 1) := by decide +kernel
theorem dM_meets_29 : decode cM_meets 29 = .ok (.istore 5, 2) := by decide +kernel
theorem dM_meets_31 : decode cM_meets 31 = .ok (.iload_n 2, 1) := by decide +kernel
theorem dM_meets_32 : decode cM_meets 32 = .ok (.iload_n 3, 1) := by decide +kernel
theorem dM_meets_33 : decode cM_meets 33 = .ok (.if_icmp .eq 38, 3) := by decide +kernel
theorem dM_meets_36 : decode cM_meets 36 = .ok (.aload_n 0, 1) := by decide +kernel
theorem dM_meets_37 : decode cM_meets 37 = .ok (.iload_n 1, 1) := by decide +kernel
theorem dM_meets_38 : decode cM_meets 38 = .ok (.iload 4, 2) := by decide +kernel
theorem dM_meets_40 : decode cM_meets 40 = .ok (.iadd, 1) := by decide +kernel
theorem dM_meets_41 : decode cM_meets 41 = .ok (.iaload, 1) := by decide +kernel
theorem dM_meets_42 : decode cM_meets 42 = .ok (.iload_n 2, 1) := by decide +kernel
theorem dM_meets_43 : decode cM_meets 43 = .ok (.invokestatic 62, 3) := by decide +kernel
theorem dM_meets_46 : decode cM_meets 46 = .ok (.ifCond .eq 25, 3) := by decide +kernel
theorem dM_meets_49 : decode cM_meets 49 = .ok (.aload_n 0, 1) := by decide +kernel
theorem dM_meets_50 : decode cM_meets 50 = .ok (.iload_n 1, 1) := by decide +kernel
theorem dM_meets_51 : decode cM_meets 51 = .ok (.iload 4, 2) := by decide +kernel
theorem dM_meets_53 : decode cM_meets 53 = .ok (.iadd, 1) := by decide +kernel
theorem dM_meets_54 : decode cM_meets 54 = .ok (.iaload, 1) := by decide +kernel
theorem dM_meets_55 : decode cM_meets 55 = .ok (.iload_n 3, 1) := by decide +kernel
theorem dM_meets_56 : decode cM_meets 56 = .ok (.invokestatic 62, 3) := by decide +kernel
theorem dM_meets_59 : decode cM_meets 59 = .ok (.ifCond .eq 12, 3) := by decide +kernel
theorem dM_meets_62 : decode cM_meets 62 = .ok (.iload 5, 2) := by decide +kernel
theorem dM_meets_64 : decode cM_meets 64 = .ok (.ifCond .ne 7, 3) := by decide +kernel
theorem dM_meets_67 : decode cM_meets 67 = .ok (.iconst 1, 1) := by decide +kernel
theorem dM_meets_68 : decode cM_meets 68 = .ok (.goto 4, 3) := by decide +kernel
theorem dM_meets_71 : decode cM_meets 71 = .ok (.iconst 0, 1) := by decide +kernel
theorem dM_meets_72 : decode cM_meets 72 = .ok (.ireturn, 1) := by decide +kernel
def fM_meets (w : x_W) (v0 : Nat) (v1 : Int32) (v2 : Int32) (v3 : Int32) (v4 : Int32) : Option Int32 :=
  (x_ai w v0 (v1 + v2)).bind fun t1 =>
  if (fM_has t1 v3) = (0 : Int32) then
    (x_ai w v0 (v1 + v3)).bind fun t3 =>
    if (fM_has t3 v2) = (0 : Int32) then
      if v2 = v3 then
        some (0 : Int32)
      else
        (x_ai w v0 (v1 + v4)).bind fun t6 =>
        if (fM_has t6 v2) = (0 : Int32) then
          some (0 : Int32)
        else
          if (fM_has t6 v3) = (0 : Int32) then
            some (0 : Int32)
          else
            some (1 : Int32)
    else
      if v2 = v3 then
        some (0 : Int32)
      else
        (x_ai w v0 (v1 + v4)).bind fun t10 =>
        if (fM_has t10 v2) = (0 : Int32) then
          some (0 : Int32)
        else
          if (fM_has t10 v3) = (0 : Int32) then
            some (0 : Int32)
          else
            some (0 : Int32)
  else
    if v2 = v3 then
      some (0 : Int32)
    else
      (x_ai w v0 (v1 + v4)).bind fun t14 =>
      if (fM_has t14 v2) = (0 : Int32) then
        some (0 : Int32)
      else
        if (fM_has t14 v3) = (0 : Int32) then
          some (0 : Int32)
        else
          some (0 : Int32)
set_option maxHeartbeats 4000000 in
set_option maxRecDepth 100000 in
theorem mM_meets (d : Nat) (hd : 2 ≤ d) {K : Option Value → x_W → Prop} {w : x_W} {v0 : Nat} {v1 : Int32} {v2 : Int32} {v3 : Int32} {v4 : Int32} {r : Int32} (h : fM_meets w v0 v1 v2 v3 v4 = some r) (hK : K (some (.int r)) w) : x_M yM_meets cM_meets 6 (some .boolean) d 0 0 [.ref v0, .int v1, .int v2, .int v3, .int v4] w K := by
  refine x_M.of [some (.ref v0), some (.int v1), some (.int v2), some (.int v3), some (.int v4), none] (by decide) rfl (Nat.le_of_ble_eq_true rfl) ?_
  unfold fM_meets at h
  refine g_aload_n 1 (i := 0) dM_meets_0 rfl rfl rfl ?_
  refine g_iload_n 2 (i := 1) dM_meets_1 rfl rfl rfl ?_
  refine g_iload_n 3 (i := 2) dM_meets_2 rfl rfl rfl ?_
  refine g_iadd 4 dM_meets_3 rfl ?_
  obtain ⟨t1, e1, h⟩ := x_bind h
  refine g_iald 5 dM_meets_4 rfl e1 ?_
  refine g_iload_n 6 (i := 3) dM_meets_5 rfl rfl rfl ?_
  refine g_cS 9 (some (.int (fM_has t1 v3))) w [.int t1, .int v3] [] dM_meets_6 rfl (fun _ hK2 => mM_has (d - 1) (by omega) rfl hK2) kM_62 (x_rm (Nat.le_trans (by decide) hd) (by decide)) ⟨Nat.zero_le _, Nat.zero_le _⟩ (Nat.le_of_ble_eq_true rfl) rfl ?_
  by_cases c2 : (fM_has t1 v3) = (0 : Int32)
  · rw [if_pos c2] at h
    refine g_if_ne_f 12 24 dM_meets_9 (by decide) rfl c2 ?_
    refine g_aload_n 13 (i := 0) dM_meets_12 rfl rfl rfl ?_
    refine g_iload_n 14 (i := 1) dM_meets_13 rfl rfl rfl ?_
    refine g_iload_n 15 (i := 3) dM_meets_14 rfl rfl rfl ?_
    refine g_iadd 16 dM_meets_15 rfl ?_
    obtain ⟨t3, e3, h⟩ := x_bind h
    refine g_iald 17 dM_meets_16 rfl e3 ?_
    refine g_iload_n 18 (i := 2) dM_meets_17 rfl rfl rfl ?_
    refine g_cS 21 (some (.int (fM_has t3 v2))) w [.int t3, .int v2] [] dM_meets_18 rfl (fun _ hK2 => mM_has (d - 1) (by omega) rfl hK2) kM_62 (x_rm (Nat.le_trans (by decide) hd) (by decide)) ⟨Nat.zero_le _, Nat.zero_le _⟩ (Nat.le_of_ble_eq_true rfl) rfl ?_
    by_cases c4 : (fM_has t3 v2) = (0 : Int32)
    · rw [if_pos c4] at h
      refine g_if_eq_t 28 dM_meets_21 (by decide) c4 ?_
      refine g_iconst 29 (0 : Int32) dM_meets_28 rfl (by decide) ?_
      refine g_istore 31 [some (.ref v0), some (.int v1), some (.int v2), some (.int v3), some (.int v4), some (.int (0 : Int32))] dM_meets_29 rfl rfl (by decide) ?_
      refine g_iload_n 32 (i := 2) dM_meets_31 rfl rfl rfl ?_
      refine g_iload_n 33 (i := 3) dM_meets_32 rfl rfl rfl ?_
      by_cases c5 : v2 = v3
      · rw [if_pos c5] at h
        refine g_icmp_eq_t 71 dM_meets_33 (by decide) c5 ?_
        refine g_iconst 72 (0 : Int32) dM_meets_71 rfl (by decide) ?_
        obtain rfl := Option.some.inj h
        exact g_zret rfl (by decide) dM_meets_72 hK
      · rw [if_neg c5] at h
        refine g_icmp_eq_f 36 71 dM_meets_33 (by decide) rfl c5 ?_
        refine g_aload_n 37 (i := 0) dM_meets_36 rfl rfl rfl ?_
        refine g_iload_n 38 (i := 1) dM_meets_37 rfl rfl rfl ?_
        refine g_iload 40 dM_meets_38 rfl rfl ?_
        refine g_iadd 41 dM_meets_40 rfl ?_
        obtain ⟨t6, e6, h⟩ := x_bind h
        refine g_iald 42 dM_meets_41 rfl e6 ?_
        refine g_iload_n 43 (i := 2) dM_meets_42 rfl rfl rfl ?_
        refine g_cS 46 (some (.int (fM_has t6 v2))) w [.int t6, .int v2] [] dM_meets_43 rfl (fun _ hK2 => mM_has (d - 1) (by omega) rfl hK2) kM_62 (x_rm (Nat.le_trans (by decide) hd) (by decide)) ⟨Nat.zero_le _, Nat.zero_le _⟩ (Nat.le_of_ble_eq_true rfl) rfl ?_
        by_cases c7 : (fM_has t6 v2) = (0 : Int32)
        · rw [if_pos c7] at h
          refine g_if_eq_t 71 dM_meets_46 (by decide) c7 ?_
          refine g_iconst 72 (0 : Int32) dM_meets_71 rfl (by decide) ?_
          obtain rfl := Option.some.inj h
          exact g_zret rfl (by decide) dM_meets_72 hK
        · rw [if_neg c7] at h
          refine g_if_eq_f 49 71 dM_meets_46 (by decide) rfl c7 ?_
          refine g_aload_n 50 (i := 0) dM_meets_49 rfl rfl rfl ?_
          refine g_iload_n 51 (i := 1) dM_meets_50 rfl rfl rfl ?_
          refine g_iload 53 dM_meets_51 rfl rfl ?_
          refine g_iadd 54 dM_meets_53 rfl ?_
          refine g_iald 55 dM_meets_54 rfl e6 ?_
          refine g_iload_n 56 (i := 3) dM_meets_55 rfl rfl rfl ?_
          refine g_cS 59 (some (.int (fM_has t6 v3))) w [.int t6, .int v3] [] dM_meets_56 rfl (fun _ hK2 => mM_has (d - 1) (by omega) rfl hK2) kM_62 (x_rm (Nat.le_trans (by decide) hd) (by decide)) ⟨Nat.zero_le _, Nat.zero_le _⟩ (Nat.le_of_ble_eq_true rfl) rfl ?_
          by_cases c8 : (fM_has t6 v3) = (0 : Int32)
          · rw [if_pos c8] at h
            refine g_if_eq_t 71 dM_meets_59 (by decide) c8 ?_
            refine g_iconst 72 (0 : Int32) dM_meets_71 rfl (by decide) ?_
            obtain rfl := Option.some.inj h
            exact g_zret rfl (by decide) dM_meets_72 hK
          · rw [if_neg c8] at h
            refine g_if_eq_f 62 71 dM_meets_59 (by decide) rfl c8 ?_
            refine g_iload 64 dM_meets_62 rfl rfl ?_
            refine g_if_ne_f 67 71 dM_meets_64 (by decide) rfl (by decide) ?_
            refine g_iconst 68 (1 : Int32) dM_meets_67 rfl (by decide) ?_
            refine g_goto 72 dM_meets_68 (by decide) ?_
            obtain rfl := Option.some.inj h
            exact g_zret rfl (by decide) dM_meets_72 hK
    · rw [if_neg c4] at h
      refine g_if_eq_f 24 28 dM_meets_21 (by decide) rfl c4 ?_
      refine g_iconst 25 (1 : Int32) dM_meets_24 rfl (by decide) ?_
      refine g_goto 29 dM_meets_25 (by decide) ?_
      refine g_istore 31 [some (.ref v0), some (.int v1), some (.int v2), some (.int v3), some (.int v4), some (.int (1 : Int32))] dM_meets_29 rfl rfl (by decide) ?_
      refine g_iload_n 32 (i := 2) dM_meets_31 rfl rfl rfl ?_
      refine g_iload_n 33 (i := 3) dM_meets_32 rfl rfl rfl ?_
      by_cases c9 : v2 = v3
      · rw [if_pos c9] at h
        refine g_icmp_eq_t 71 dM_meets_33 (by decide) c9 ?_
        refine g_iconst 72 (0 : Int32) dM_meets_71 rfl (by decide) ?_
        obtain rfl := Option.some.inj h
        exact g_zret rfl (by decide) dM_meets_72 hK
      · rw [if_neg c9] at h
        refine g_icmp_eq_f 36 71 dM_meets_33 (by decide) rfl c9 ?_
        refine g_aload_n 37 (i := 0) dM_meets_36 rfl rfl rfl ?_
        refine g_iload_n 38 (i := 1) dM_meets_37 rfl rfl rfl ?_
        refine g_iload 40 dM_meets_38 rfl rfl ?_
        refine g_iadd 41 dM_meets_40 rfl ?_
        obtain ⟨t10, e10, h⟩ := x_bind h
        refine g_iald 42 dM_meets_41 rfl e10 ?_
        refine g_iload_n 43 (i := 2) dM_meets_42 rfl rfl rfl ?_
        refine g_cS 46 (some (.int (fM_has t10 v2))) w [.int t10, .int v2] [] dM_meets_43 rfl (fun _ hK2 => mM_has (d - 1) (by omega) rfl hK2) kM_62 (x_rm (Nat.le_trans (by decide) hd) (by decide)) ⟨Nat.zero_le _, Nat.zero_le _⟩ (Nat.le_of_ble_eq_true rfl) rfl ?_
        by_cases c11 : (fM_has t10 v2) = (0 : Int32)
        · rw [if_pos c11] at h
          refine g_if_eq_t 71 dM_meets_46 (by decide) c11 ?_
          refine g_iconst 72 (0 : Int32) dM_meets_71 rfl (by decide) ?_
          obtain rfl := Option.some.inj h
          exact g_zret rfl (by decide) dM_meets_72 hK
        · rw [if_neg c11] at h
          refine g_if_eq_f 49 71 dM_meets_46 (by decide) rfl c11 ?_
          refine g_aload_n 50 (i := 0) dM_meets_49 rfl rfl rfl ?_
          refine g_iload_n 51 (i := 1) dM_meets_50 rfl rfl rfl ?_
          refine g_iload 53 dM_meets_51 rfl rfl ?_
          refine g_iadd 54 dM_meets_53 rfl ?_
          refine g_iald 55 dM_meets_54 rfl e10 ?_
          refine g_iload_n 56 (i := 3) dM_meets_55 rfl rfl rfl ?_
          refine g_cS 59 (some (.int (fM_has t10 v3))) w [.int t10, .int v3] [] dM_meets_56 rfl (fun _ hK2 => mM_has (d - 1) (by omega) rfl hK2) kM_62 (x_rm (Nat.le_trans (by decide) hd) (by decide)) ⟨Nat.zero_le _, Nat.zero_le _⟩ (Nat.le_of_ble_eq_true rfl) rfl ?_
          by_cases c12 : (fM_has t10 v3) = (0 : Int32)
          · rw [if_pos c12] at h
            refine g_if_eq_t 71 dM_meets_59 (by decide) c12 ?_
            refine g_iconst 72 (0 : Int32) dM_meets_71 rfl (by decide) ?_
            obtain rfl := Option.some.inj h
            exact g_zret rfl (by decide) dM_meets_72 hK
          · rw [if_neg c12] at h
            refine g_if_eq_f 62 71 dM_meets_59 (by decide) rfl c12 ?_
            refine g_iload 64 dM_meets_62 rfl rfl ?_
            refine g_if_ne_t 71 dM_meets_64 (by decide) (by decide) ?_
            refine g_iconst 72 (0 : Int32) dM_meets_71 rfl (by decide) ?_
            obtain rfl := Option.some.inj h
            exact g_zret rfl (by decide) dM_meets_72 hK
  · rw [if_neg c2] at h
    refine g_if_ne_t 24 dM_meets_9 (by decide) c2 ?_
    refine g_iconst 25 (1 : Int32) dM_meets_24 rfl (by decide) ?_
    refine g_goto 29 dM_meets_25 (by decide) ?_
    refine g_istore 31 [some (.ref v0), some (.int v1), some (.int v2), some (.int v3), some (.int v4), some (.int (1 : Int32))] dM_meets_29 rfl rfl (by decide) ?_
    refine g_iload_n 32 (i := 2) dM_meets_31 rfl rfl rfl ?_
    refine g_iload_n 33 (i := 3) dM_meets_32 rfl rfl rfl ?_
    by_cases c13 : v2 = v3
    · rw [if_pos c13] at h
      refine g_icmp_eq_t 71 dM_meets_33 (by decide) c13 ?_
      refine g_iconst 72 (0 : Int32) dM_meets_71 rfl (by decide) ?_
      obtain rfl := Option.some.inj h
      exact g_zret rfl (by decide) dM_meets_72 hK
    · rw [if_neg c13] at h
      refine g_icmp_eq_f 36 71 dM_meets_33 (by decide) rfl c13 ?_
      refine g_aload_n 37 (i := 0) dM_meets_36 rfl rfl rfl ?_
      refine g_iload_n 38 (i := 1) dM_meets_37 rfl rfl rfl ?_
      refine g_iload 40 dM_meets_38 rfl rfl ?_
      refine g_iadd 41 dM_meets_40 rfl ?_
      obtain ⟨t14, e14, h⟩ := x_bind h
      refine g_iald 42 dM_meets_41 rfl e14 ?_
      refine g_iload_n 43 (i := 2) dM_meets_42 rfl rfl rfl ?_
      refine g_cS 46 (some (.int (fM_has t14 v2))) w [.int t14, .int v2] [] dM_meets_43 rfl (fun _ hK2 => mM_has (d - 1) (by omega) rfl hK2) kM_62 (x_rm (Nat.le_trans (by decide) hd) (by decide)) ⟨Nat.zero_le _, Nat.zero_le _⟩ (Nat.le_of_ble_eq_true rfl) rfl ?_
      by_cases c15 : (fM_has t14 v2) = (0 : Int32)
      · rw [if_pos c15] at h
        refine g_if_eq_t 71 dM_meets_46 (by decide) c15 ?_
        refine g_iconst 72 (0 : Int32) dM_meets_71 rfl (by decide) ?_
        obtain rfl := Option.some.inj h
        exact g_zret rfl (by decide) dM_meets_72 hK
      · rw [if_neg c15] at h
        refine g_if_eq_f 49 71 dM_meets_46 (by decide) rfl c15 ?_
        refine g_aload_n 50 (i := 0) dM_meets_49 rfl rfl rfl ?_
        refine g_iload_n 51 (i := 1) dM_meets_50 rfl rfl rfl ?_
        refine g_iload 53 dM_meets_51 rfl rfl ?_
        refine g_iadd 54 dM_meets_53 rfl ?_
        refine g_iald 55 dM_meets_54 rfl e14 ?_
        refine g_iload_n 56 (i := 3) dM_meets_55 rfl rfl rfl ?_
        refine g_cS 59 (some (.int (fM_has t14 v3))) w [.int t14, .int v3] [] dM_meets_56 rfl (fun _ hK2 => mM_has (d - 1) (by omega) rfl hK2) kM_62 (x_rm (Nat.le_trans (by decide) hd) (by decide)) ⟨Nat.zero_le _, Nat.zero_le _⟩ (Nat.le_of_ble_eq_true rfl) rfl ?_
        by_cases c16 : (fM_has t14 v3) = (0 : Int32)
        · rw [if_pos c16] at h
          refine g_if_eq_t 71 dM_meets_59 (by decide) c16 ?_
          refine g_iconst 72 (0 : Int32) dM_meets_71 rfl (by decide) ?_
          obtain rfl := Option.some.inj h
          exact g_zret rfl (by decide) dM_meets_72 hK
        · rw [if_neg c16] at h
          refine g_if_eq_f 62 71 dM_meets_59 (by decide) rfl c16 ?_
          refine g_iload 64 dM_meets_62 rfl rfl ?_
          refine g_if_ne_t 71 dM_meets_64 (by decide) (by decide) ?_
          refine g_iconst 72 (0 : Int32) dM_meets_71 rfl (by decide) ?_
          obtain rfl := Option.some.inj h
          exact g_zret rfl (by decide) dM_meets_72 hK
