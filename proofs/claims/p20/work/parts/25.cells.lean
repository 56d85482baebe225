/-! reading and writing cells of the picture -/
theorem z_fv {w : x_W} {i ci k : Nat} {fs : List Value} (h : w[i]? = some (.inr (ci, fs))) : x_fv w i ci k = fs[k]? := by
  unfold x_fv; rw [h]; simp
theorem z_fi {w : x_W} {i ci k : Nat} {fs : List Value} (h : w[i]? = some (.inr (ci, fs))) : x_fi w i ci k = x_vi fs[k]? := by
  unfold x_fi; rw [z_fv h]
theorem z_fr {w : x_W} {i ci k : Nat} {fs : List Value} (h : w[i]? = some (.inr (ci, fs))) : x_fr w i ci k = x_vr fs[k]? := by
  unfold x_fr; rw [z_fv h]
theorem z_ob {w : x_W} {i ci : Nat} {fs : List Value} (h : w[i]? = some (.inr (ci, fs))) : x_ob w i ci = some () := by
  unfold x_ob; rw [h]; simp
theorem z_pf {w : x_W} {i ci k : Nat} {fs : List Value} {v : Value} (h : w[i]? = some (.inr (ci, fs))) (hk : k < fs.length) : x_pf w i ci k v = some (w.set i (.inr (ci, fs.set k v))) := by
  unfold x_pf; rw [h]; simp [hk]
theorem z_ai {w : x_W} {i N j : Nat} {f : Nat → Int32} (h : w[i]? = some (.inl (N, f))) (hj : j < N) (hN : N < 2 ^ 31) : x_ai w i (nI j) = some (f j) := by
  unfold x_ai
  rw [h]
  dsimp only
  rw [if_neg (nI_in hj hN), nI_clamp (by omega)]
theorem z_pa {w : x_W} {i N j : Nat} {x : Int32} {f : Nat → Int32} (h : w[i]? = some (.inl (N, f))) (hj : j < N) (hN : N < 2 ^ 31) : x_pa w i (nI j) x = some (w.set i (.inl (N, upd f j x))) := by
  unfold x_pa
  rw [h]
  dsimp only
  rw [if_neg (nI_in hj hN), nI_clamp (by omega)]
theorem z_lt {w : x_W} {i : Nat} {c : x_C} (h : w[i]? = some c) : i < w.length := (List.getElem?_eq_some_iff.mp h).1
theorem z_self {w : x_W} {i : Nat} {c c' : x_C} (h : w[i]? = some c) : (w.set i c')[i]? = some c' := by
  rw [List.getElem?_set, if_pos rfl, if_pos (z_lt h)]
theorem z_else {w : x_W} {i j : Nat} {c' : x_C} (h : i ≠ j) : (w.set i c')[j]? = w[j]? := by
  rw [List.getElem?_set, if_neg h]
theorem z_upd_s {f : Nat → Int32} {k : Nat} {x : Int32} : upd f k x k = x := pk_us
theorem z_upd_n {f : Nat → Int32} {k j : Nat} {x : Int32} (h : j ≠ k) : upd f k x j = f j := pk_un h
/-- World.become -/
theorem z_become {w : x_W} {u : Nat} {a b c d : Value} (h : w[u]? = some (.inr (3, [a, b, c, d]))) (x1 x2 x3 x4 : Int32) : ∃ w', fO_become w u x1 x2 x3 x4 = some w' ∧ w'[u]? = some (.inr (3, [.int x1, .int x2, .int x3, .int x4])) ∧ (∀ j, j ≠ u → w'[j]? = w[j]?) := by
  unfold fO_become
  rw [z_pf h (by simp), Option.bind_some]
  have h1 := z_self (c' := .inr (3, [.int x1, b, c, d])) h
  rw [show [a, b, c, d].set 0 (Value.int x1) = [.int x1, b, c, d] from rfl, z_pf h1 (by simp), Option.bind_some]
  have h2 := z_self (c' := .inr (3, [.int x1, .int x2, c, d])) h1
  rw [show [Value.int x1, b, c, d].set 1 (Value.int x2) = [.int x1, .int x2, c, d] from rfl, z_pf h2 (by simp), Option.bind_some]
  have h3 := z_self (c' := .inr (3, [.int x1, .int x2, .int x3, d])) h2
  rw [show [Value.int x1, .int x2, c, d].set 2 (Value.int x3) = [.int x1, .int x2, .int x3, d] from rfl, z_pf h3 (by simp), Option.bind_some]
  have h4 := z_self (c' := .inr (3, [.int x1, .int x2, .int x3, .int x4])) h3
  refine ⟨_, rfl, h4, fun j hj => ?_⟩
  rw [z_else (Ne.symm hj), z_else (Ne.symm hj), z_else (Ne.symm hj), z_else (Ne.symm hj)]
theorem z_wd_of {w : x_W} {u d e q v : Nat} (h : w[u]? = some (.inr (3, [.int (nI d), .int (nI e), .int (nI q), .int (nI v)]))) (hd : d < 64) (he : e < 64) (hq : q < 64) (hv : v < 64) : z_wd w u d e q v :=
  ⟨hd, he, hq, hv, z_ob h, by rw [z_fi h]; rfl, by rw [z_fi h]; rfl, by rw [z_fi h]; rfl, by rw [z_fi h]; rfl⟩
theorem z_arr_of {w : x_W} {a pa n : Nat} {F : Nat → Int32} {f : Nat → Nat} (h : w[a]? = some (.inr (1, [.int (nI n), .ref pa]))) (hp : w[pa]? = some (.inl (6, F))) (hn : n ≤ 6) (hf : ∀ p, p < n → f p < 2 ^ p) (hF : ∀ p, p < n → F p = nI (f p)) : z_arr w a n f :=
  ⟨hn, hf, z_ob h, by rw [z_fi h]; rfl, pa, by rw [z_fr h]; rfl, fun p hp' => by rw [z_ai hp (by omega) (by omega), hF p hp']⟩
/-- Arrows.copyWithout -/
theorem z_copyW {w : x_W} {a pa s ps n c : Nat} {m : Int32} {C F : Nat → Int32} {f : Nat → Nat} (ha : w[a]? = some (.inr (1, [.int m, .ref pa]))) (hpa : w[pa]? = some (.inl (6, C))) (hs : w[s]? = some (.inr (1, [.int (nI n), .ref ps]))) (hps : w[ps]? = some (.inl (6, F))) (hn : n ≤ 6) (hf : ∀ p, p < n → f p < 64) (hF : ∀ p, p < n → F p = nI (f p)) (hc : c < 64) (d1 : a ≠ pa) (d2 : a ≠ s) (d3 : a ≠ ps) (d4 : pa ≠ s) (d5 : pa ≠ ps) :
    ∃ w' C', fR_copyWithout w a s (nI c) = some w' ∧ w'[a]? = some (.inr (1, [.int (nI n), .ref pa])) ∧ w'[pa]? = some (.inl (6, C')) ∧ (∀ p, p < n → C' p = nI (f p &&& (63 - c))) ∧ ∀ j, j ≠ a → j ≠ pa → w'[j]? = w[j]? := by
  have loop : ∀ (k q fuel : Nat) (w : x_W) (C : Nat → Int32), q + k = n → k < fuel → w[a]? = some (.inr (1, [.int (nI n), .ref pa])) → w[pa]? = some (.inl (6, C)) → w[s]? = some (.inr (1, [.int (nI n), .ref ps])) → w[ps]? = some (.inl (6, F)) → (∀ p, p < q → C p = nI (f p &&& (63 - c))) →
      ∃ w' C', fR_copyWithout_10 fuel w a s (nI c) (nI q) = some w' ∧ w'[a]? = some (.inr (1, [.int (nI n), .ref pa])) ∧ w'[pa]? = some (.inl (6, C')) ∧ (∀ p, p < n → C' p = nI (f p &&& (63 - c))) ∧ ∀ j, j ≠ a → j ≠ pa → w'[j]? = w[j]? := by
    intro k
    induction k with
    | zero =>
      intro q fuel w C hq hk ha hpa hs hps hC
      obtain ⟨mm, rfl⟩ := z_suc hk
      rw [fR_copyWithout_10, z_fi ha]
      refine ⟨w, C, ?_, ha, hpa, fun p hp => hC p (by omega), fun _ _ _ => rfl⟩
      show (some (nI n)).bind _ = _
      rw [Option.bind_some, if_pos (nI_le (by omega) (by omega))]
    | succ k ih =>
      intro q fuel w C hq hk ha hpa hs hps hC
      obtain ⟨mm, rfl⟩ := z_suc hk
      have hlt : q < n := by omega
      rw [fR_copyWithout_10, z_fi ha, z_fr ha, z_fr hs]
      show ∃ w' C', ((some (nI n)).bind _) = _ ∧ _
      rw [Option.bind_some, if_neg (nI_ge hlt (by omega))]
      show ∃ w' C', ((some pa).bind fun t3 => (some ps).bind _) = _ ∧ _
      rw [Option.bind_some, Option.bind_some, z_ai hps (show q < 6 by omega) (by omega), Option.bind_some, hF q hlt, z_not _ (hf q hlt) _ hc, z_pa hpa (show q < 6 by omega) (by omega), Option.bind_some, z_inc]
      obtain ⟨w', C', r1, r2, r3, r4, r5⟩ := ih (q + 1) mm (w.set pa (.inl (6, upd C q (nI (f q &&& (63 - c)))))) (upd C q (nI (f q &&& (63 - c)))) (by omega) (by omega) (by rw [z_else (Ne.symm d1)]; exact ha) (z_self hpa) (by rw [z_else d4]; exact hs) (by rw [z_else d5]; exact hps) (fun p hp => by
        by_cases e : p = q
        · subst e; rw [z_upd_s]
        · rw [z_upd_n e]; exact hC p (by omega))
      exact ⟨w', C', r1, r2, r3, r4, fun j h1 h2 => by rw [r5 j h1 h2, z_else (Ne.symm h2)]⟩
  unfold fR_copyWithout
  rw [z_fi hs]
  show ∃ w' C', ((some (nI n)).bind _) = _ ∧ _
  rw [Option.bind_some, z_pf ha (by simp), Option.bind_some]
  obtain ⟨w', C', r1, r2, r3, r4, r5⟩ := loop n 0 x_F (w.set a (.inr (1, [.int (nI n), .ref pa]))) C (by omega) (by unfold x_F; omega) (z_self ha) (by rw [z_else d1]; exact hpa) (by rw [z_else d2]; exact hs) (by rw [z_else d3]; exact hps) (fun p hp => by omega)
  exact ⟨w', C', r1, r2, r3, r4, fun j h1 h2 => by rw [r5 j h1 h2, z_else (Ne.symm h1)]⟩
/-- Graph.putParents: one place's parents, and its weights are 8 -/
theorem z_putParents {w : x_W} {o ar pa wp p : Nat} {hI sI x : Int32} {F U : Nat → Int32} (ho : w[o]? = some (.inr (2, [.ref ar, .ref wp, .int hI]))) (har : w[ar]? = some (.inr (1, [.int sI, .ref pa]))) (hpa : w[pa]? = some (.inl (6, F))) (hwp : w[wp]? = some (.inl (192, U))) (hp : p < 6) (d1 : o ≠ wp) (d2 : ar ≠ wp) (d3 : pa ≠ wp) (d4 : pa ≠ o) (d5 : pa ≠ ar) :
    ∃ w' U', fG_putParents w o (nI p) x = some w' ∧ w'[pa]? = some (.inl (6, upd F p x)) ∧ w'[wp]? = some (.inl (192, U')) ∧ (∀ i, U' i = if p * 32 ≤ i ∧ i < p * 32 + 32 then 8 else U i) ∧ ∀ j, j ≠ pa → j ≠ wp → w'[j]? = w[j]? := by
  have loop : ∀ (k v fuel : Nat) (w : x_W) (V : Nat → Int32), v + k = 32 → k < fuel → w[o]? = some (.inr (2, [.ref ar, .ref wp, .int hI])) → w[wp]? = some (.inl (192, V)) → (∀ i, V i = if p * 32 ≤ i ∧ i < p * 32 + v then 8 else U i) →
      ∃ w' U', fG_putParents_12 fuel w o (nI p) (nI v) = some w' ∧ w'[wp]? = some (.inl (192, U')) ∧ (∀ i, U' i = if p * 32 ≤ i ∧ i < p * 32 + 32 then 8 else U i) ∧ ∀ j, j ≠ wp → w'[j]? = w[j]? := by
    intro k
    induction k with
    | zero =>
      intro v fuel w V hv hk ho hwp hV
      obtain ⟨mm, rfl⟩ := z_suc hk
      rw [fG_putParents_12, show (32 : Int32) = nI 32 from rfl, if_pos (nI_le (by omega) (by omega))]
      refine ⟨w, V, rfl, hwp, fun i => ?_, fun _ _ => rfl⟩
      rw [hV i, show v = 32 by omega]
    | succ k ih =>
      intro v fuel w V hv hk ho hwp hV
      obtain ⟨mm, rfl⟩ := z_suc hk
      rw [fG_putParents_12, show (32 : Int32) = nI 32 from rfl, if_neg (nI_ge (by omega) (by omega)), z_ob ho, Option.bind_some]
      unfold fG_putWeight
      rw [z_fr ho]
      show ∃ w' U', (((some wp).bind _).bind _) = _ ∧ _
      rw [Option.bind_some, show (32 : Int32) = nI 32 from rfl, pk_mul, nI_add, z_pa hwp (show p * 32 + v < 192 by omega) (by omega), Option.bind_some, Option.bind_some, z_inc]
      obtain ⟨w', U', r1, r2, r3, r4⟩ := ih (v + 1) mm _ (upd V (p * 32 + v) 8) (by omega) (by omega) (by rw [z_else (Ne.symm d1)]; exact ho) (z_self hwp) (fun i => by
        by_cases e : i = p * 32 + v
        · subst e; rw [z_upd_s, if_pos (by omega)]
        · rw [z_upd_n e, hV i]
          by_cases c : p * 32 ≤ i ∧ i < p * 32 + v
          · rw [if_pos c, if_pos (by omega)]
          · rw [if_neg c, if_neg (by omega)])
      exact ⟨w', U', r1, r2, r3, fun j h1 => by rw [r4 j h1, z_else (Ne.symm h1)]⟩
  unfold fG_putParents
  rw [z_fr ho]
  show ∃ w' U', ((some ar).bind _) = _ ∧ _
  rw [Option.bind_some, z_fr har]
  show ∃ w' U', ((some pa).bind _) = _ ∧ _
  rw [Option.bind_some, z_pa hpa hp (by omega), Option.bind_some, show (0 : Int32) = nI 0 from rfl]
  obtain ⟨w', U', r1, r2, r3, r4⟩ := loop 32 0 x_F (w.set pa (.inl (6, upd F p x))) U (by omega) (by unfold x_F; omega) (by rw [z_else d4]; exact ho) (by rw [z_else d3]; exact hwp) (fun i => by rw [if_neg (by omega)])
  exact ⟨w', U', r1, by rw [r4 pa d3]; exact z_self hpa, r2, r3, fun j h1 h2 => by rw [r4 j h2, z_else (Ne.symm h1)]⟩
/-- Graph.restart -/
theorem z_restart {w : x_W} {o ar pa wp n : Nat} {hI sI : Int32} {F U : Nat → Int32} (ho : w[o]? = some (.inr (2, [.ref ar, .ref wp, .int hI]))) (har : w[ar]? = some (.inr (1, [.int sI, .ref pa]))) (hpa : w[pa]? = some (.inl (6, F))) (hwp : w[wp]? = some (.inl (192, U))) (hn : n ≤ 6) (d1 : o ≠ wp) (d2 : ar ≠ wp) (d3 : pa ≠ wp) (d4 : pa ≠ o) (d5 : pa ≠ ar) (d6 : o ≠ ar) :
    ∃ w' F' U', fG_restart w o (nI n) = some w' ∧ w'[o]? = some (.inr (2, [.ref ar, .ref wp, .int 0])) ∧ w'[ar]? = some (.inr (1, [.int (nI n), .ref pa])) ∧ w'[pa]? = some (.inl (6, F')) ∧ (∀ p, p < n → F' p = 0) ∧ w'[wp]? = some (.inl (192, U')) ∧ (∀ i, i < n * 32 → U' i = 8) ∧ ∀ j, j ≠ o → j ≠ ar → j ≠ pa → j ≠ wp → w'[j]? = w[j]? := by
  have loop : ∀ (k q fuel : Nat) (w : x_W) (F U : Nat → Int32), q + k = n → k < fuel → w[o]? = some (.inr (2, [.ref ar, .ref wp, .int 0])) → w[ar]? = some (.inr (1, [.int (nI n), .ref pa])) → w[pa]? = some (.inl (6, F)) → w[wp]? = some (.inl (192, U)) → (∀ p, p < q → F p = 0) → (∀ i, i < q * 32 → U i = 8) →
      ∃ w' F' U', fG_restart_15 fuel w o (nI n) (nI q) = some w' ∧ w'[o]? = some (.inr (2, [.ref ar, .ref wp, .int 0])) ∧ w'[ar]? = some (.inr (1, [.int (nI n), .ref pa])) ∧ w'[pa]? = some (.inl (6, F')) ∧ (∀ p, p < n → F' p = 0) ∧ w'[wp]? = some (.inl (192, U')) ∧ (∀ i, i < n * 32 → U' i = 8) ∧ ∀ j, j ≠ pa → j ≠ wp → w'[j]? = w[j]? := by
    intro k
    induction k with
    | zero =>
      intro q fuel w F U hq hk ho har hpa hwp hF hU
      obtain ⟨mm, rfl⟩ := z_suc hk
      rw [fG_restart_15, if_pos (nI_le (by omega) (by omega))]
      have e : q = n := by omega
      subst e
      exact ⟨w, F, U, rfl, ho, har, hpa, hF, hwp, hU, fun _ _ _ => rfl⟩
    | succ k ih =>
      intro q fuel w F U hq hk ho har hpa hwp hF hU
      obtain ⟨mm, rfl⟩ := z_suc hk
      rw [fG_restart_15, if_neg (nI_ge (by omega) (by omega)), z_ob ho, Option.bind_some]
      obtain ⟨w1, U1, a1, a2, a3, a4, a5⟩ := z_putParents (p := q) (x := 0) ho har hpa hwp (by omega) d1 d2 d3 d4 d5
      rw [a1, Option.bind_some, z_inc]
      obtain ⟨w', F', U', r1, r2, r3, r4, r5, r6, r7, r8⟩ := ih (q + 1) mm w1 _ U1 (by omega) (by omega) (by rw [a5 o (Ne.symm d4) d1]; exact ho) (by rw [a5 ar (Ne.symm d5) d2]; exact har) a2 a3 (fun p hp => by
        by_cases e : p = q
        · subst e; rw [z_upd_s]
        · rw [z_upd_n e]; exact hF p (by omega)) (fun i hi => by
        rw [a4 i]
        by_cases c : q * 32 ≤ i ∧ i < q * 32 + 32
        · rw [if_pos c]
        · rw [if_neg c]; exact hU i (by omega))
      exact ⟨w', F', U', r1, r2, r3, r4, r5, r6, r7, fun j h1 h2 => by rw [r8 j h1 h2, a5 j h1 h2]⟩
  unfold fG_restart
  rw [z_fr ho]
  show ∃ w' F' U', ((some ar).bind _) = _ ∧ _
  rw [Option.bind_some, z_pf har (by simp), Option.bind_some]
  have ho1 : (w.set ar (.inr (1, [Value.int sI, .ref pa].set 0 (.int (nI n)))))[o]? = some (.inr (2, [.ref ar, .ref wp, .int hI])) := by rw [z_else (Ne.symm d6)]; exact ho
  rw [z_pf ho1 (by simp), Option.bind_some, show (0 : Int32) = nI 0 from rfl]
  obtain ⟨w', F', U', r1, r2, r3, r4, r5, r6, r7, r8⟩ := loop n 0 x_F ((w.set ar (.inr (1, [.int (nI n), .ref pa]))).set o (.inr (2, [.ref ar, .ref wp, .int 0]))) F U (by omega) (by unfold x_F; omega) (z_self ho1) (by rw [z_else d6]; exact z_self har) (by rw [z_else (Ne.symm d4), z_else (Ne.symm d5)]; exact hpa) (by rw [z_else d1, z_else d2]; exact hwp) (fun p hp => by omega) (fun i hi => by omega)
  exact ⟨w', F', U', r1, r2, r3, r4, r5, r6, r7, fun j h1 h2 h3 h4 => by rw [r8 j h3 h4, z_else (Ne.symm h1), z_else (Ne.symm h2)]⟩
