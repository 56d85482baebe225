/-! A PURE PICTURE of the machine: the cells in the order in which they were made, references told by their places. -/
abbrev x_C : Type := (Nat × (Nat → Int32)) ⊕ (Nat × List Value)
abbrev x_W : Type := List x_C
abbrev x_L : Type := List (Option Value)
/-- a value of the picture as a value of the machine: place i is the cell base + i; a returnAddress stands for the law's script -/
def x_tr (base b : Nat) : Value → Value
  | .ref i => .ref (base + i)
  | .retAddr _ => .ref b
  | .int x => .int x
  | .long x => .long x
  | .float x => .float x
  | .double x => .double x
  | .null => .null
theorem x_tr_cat (base b : Nat) (v : Value) : (x_tr base b v).category = v.category := by cases v <;> rfl
def x_cc (base b : Nat) (cI : ClassId) : x_C → va_E
  | .inl a => .inl (cI, a.1, .inl a.2)
  | .inr o => .inr (o.1, o.2.map (x_tr base b))
def x_cw (base b : Nat) (cI : ClassId) : Nat → x_W → va_W
  | _, [] => []
  | k, c :: w => (base + k, x_cc base b cI c) :: x_cw base b cI (k + 1) w
theorem x_cw_get {base b : Nat} {cI : ClassId} (w : x_W) : ∀ k i : Nat, (x_cw base b cI k w)[i]? = (w[i]?).map (fun c => (base + (k + i), x_cc base b cI c)) := by
  induction w with
  | nil => intro k i; simp [x_cw]
  | cons c w ih =>
    intro k i
    cases i with
    | zero => simp [x_cw]
    | succ i =>
      have e : k + 1 + i = k + (i + 1) := by omega
      have := ih (k + 1) i
      rw [e] at this
      simpa [x_cw] using this
theorem x_cw_set {base b : Nat} {cI : ClassId} (w : x_W) : ∀ (k i : Nat) (c : x_C), (x_cw base b cI k w).set i (base + (k + i), x_cc base b cI c) = x_cw base b cI k (w.set i c) := by
  induction w with
  | nil => intro k i c; simp [x_cw]
  | cons c0 w ih =>
    intro k i c
    cases i with
    | zero => simp [x_cw]
    | succ i =>
      have e : k + 1 + i = k + (i + 1) := by omega
      have := ih (k + 1) i c
      rw [e] at this
      simpa [x_cw] using this
theorem x_cw_app {base b : Nat} {cI : ClassId} (w : x_W) (c : x_C) : ∀ k : Nat, x_cw base b cI k (w ++ [c]) = x_cw base b cI k w ++ [(base + (k + w.length), x_cc base b cI c)] := by
  induction w with
  | nil => intro k; simp [x_cw]
  | cons c0 w ih =>
    intro k
    have e : k + 1 + w.length = k + (w.length + 1) := by omega
    have := ih (k + 1)
    rw [e] at this
    simpa [x_cw] using this
theorem x_cw_at {base b : Nat} {cI : ClassId} {w : x_W} {i : Nat} {c : x_C} (h : w[i]? = some c) : (x_cw base b cI 0 w)[i]? = some (base + i, x_cc base b cI c) := by
  rw [x_cw_get, h]; simp
theorem x_cw_st {base b : Nat} {cI : ClassId} (w : x_W) (i : Nat) (c : x_C) : (x_cw base b cI 0 w).set i (base + i, x_cc base b cI c) = x_cw base b cI 0 (w.set i c) := by
  have := x_cw_set (base := base) (b := b) (cI := cI) w 0 i c
  simpa using this
theorem x_cw_ap {base b : Nat} {cI : ClassId} (w : x_W) (c : x_C) : x_cw base b cI 0 (w ++ [c]) = x_cw base b cI 0 w ++ [(base + w.length, x_cc base b cI c)] := by
  have := x_cw_app (base := base) (b := b) (cI := cI) w c 0
  simpa using this
theorem x_D {base b : Nat} {cI : ClassId} (w : x_W) : va_D (fun q : Nat => base ≤ q) (x_cw base b cI 0 w) := by
  refine ⟨fun i j p q hp hq h => ?_, fun k q hq => ?_⟩
  · rw [x_cw_get] at hp hq
    obtain ⟨c1, -, rfl⟩ := Option.map_eq_some_iff.mp hp
    obtain ⟨c2, -, rfl⟩ := Option.map_eq_some_iff.mp hq
    dsimp only at h
    omega
  · rw [x_cw_get] at hq
    obtain ⟨c1, -, rfl⟩ := Option.map_eq_some_iff.mp hq
    show base ≤ _
    dsimp only
    omega
/-! locals by their places -/
def x_R (base b : Nat) (ls : Array Slot) (nL : Nat) (L : x_L) : Prop := ls.size = nL ∧ lv_wf ls ∧ ∀ (j : Nat) (v : Value), L[j]? = some (some v) → ls[j]? = some (.val (x_tr base b v))
def x_a1 (base b : Nat) (L : x_L) (j : Nat) : Option (Nat × Value) := match L[j]? with
  | some (some v) => some (j, x_tr base b v)
  | _ => none
def x_as (base b : Nat) (L : x_L) : List (Nat × Value) := (List.range L.length).filterMap (x_a1 base b L)
theorem x_a1_some {base b : Nat} {L : x_L} {j : Nat} {q : Nat × Value} (h : x_a1 base b L j = some q) : ∃ v, L[j]? = some (some v) ∧ q = (j, x_tr base b v) := by
  unfold x_a1 at h
  split at h
  · next v hv => exact ⟨v, hv, (Option.some.inj h).symm⟩
  · cases h
theorem x_as_mem {base b : Nat} {L : x_L} {q : Nat × Value} (h : q ∈ x_as base b L) : ∃ v, L[q.1]? = some (some v) ∧ q.2 = x_tr base b v := by
  obtain ⟨j, -, hj⟩ := List.mem_filterMap.mp h
  obtain ⟨v, h1, rfl⟩ := x_a1_some hj
  exact ⟨v, h1, rfl⟩
theorem x_as_of {base b : Nat} {L : x_L} {j : Nat} {v : Value} (h : L[j]? = some (some v)) : (j, x_tr base b v) ∈ x_as base b L := by
  refine List.mem_filterMap.mpr ⟨j, List.mem_range.mpr (List.getElem?_eq_some_iff.mp h).1, ?_⟩
  unfold x_a1
  rw [h]
theorem x_R.has {base b : Nat} {ls : Array Slot} {nL : Nat} {L : x_L} (h : x_R base b ls nL L) : lv_has ls nL (x_as base b L) := by
  refine ⟨h.1, h.2.1, fun q hq => ?_⟩
  obtain ⟨v, h1, h2⟩ := x_as_mem hq
  rw [h2]
  exact h.2.2 q.1 v h1
def x_kill (L : x_L) (i : Nat) : x_L := match i with
  | 0 => L
  | i + 1 => match L[i]? with
    | some (some v) => if v.category = 2 then L.set i none else L
    | _ => L
def x_st1 (L : x_L) (i : Nat) (v : Value) : x_L := (x_kill L i).set i (some v)
def x_st2 (L : x_L) (i : Nat) (v : Value) : x_L := ((x_kill L i).set (i + 1) none).set i (some v)
theorem x_kill_get {L : x_L} {i j : Nat} {u : Value} (h : (x_kill L i)[j]? = some (some u)) : L[j]? = some (some u) ∧ ¬ (j + 1 = i ∧ u.category = 2) := by
  cases i with
  | zero => exact ⟨h, by omega⟩
  | succ i =>
    unfold x_kill at h
    dsimp only at h
    split at h
    · next v hv =>
      split at h
      · next hc =>
        rw [List.getElem?_set] at h
        by_cases e : i = j
        · rw [if_pos e] at h
          split at h <;> simp at h
        · rw [if_neg e] at h
          exact ⟨h, by omega⟩
      · next hc =>
        refine ⟨h, fun z => ?_⟩
        have e : j = i := by omega
        subst e
        rw [hv] at h
        have : v = u := by simpa using h
        subst this
        exact hc z.2
    · next hv =>
      refine ⟨h, fun z => ?_⟩
      have e : j = i := by omega
      subst e
      exact hv u h
theorem x_R.st1 {base b : Nat} {ls' : Array Slot} {nL i : Nat} {L : x_L} {v : Value} (h : lv_has ls' nL ((i, x_tr base b v) :: (x_as base b L).filter (fun q => !(q.1 == i) && !(q.1 + 1 == i && q.2.category == 2)))) : x_R base b ls' nL (x_st1 L i v) := by
  refine ⟨h.1, h.2.1, fun j u hj => ?_⟩
  unfold x_st1 at hj
  rw [List.getElem?_set] at hj
  by_cases e : i = j
  · rw [if_pos e] at hj
    subst e
    split at hj
    · have : v = u := by simpa using hj
      subst this
      exact h.2.2 _ List.mem_cons_self
    · cases hj
  · rw [if_neg e] at hj
    obtain ⟨h1, h2⟩ := x_kill_get hj
    refine h.2.2 (j, x_tr base b u) (List.mem_cons_of_mem _ (List.mem_filter.mpr ⟨x_as_of h1, ?_⟩))
    simp only [x_tr_cat, Bool.and_eq_true, Bool.not_eq_true', beq_eq_false_iff_ne, ne_eq, Bool.and_eq_false_iff]
    refine ⟨fun z => e z.symm, ?_⟩
    by_cases z : j + 1 = i
    · exact Or.inr fun y => h2 ⟨z, y⟩
    · exact Or.inl z
theorem x_R.st2 {base b : Nat} {ls' : Array Slot} {nL i : Nat} {L : x_L} {v : Value} (h : lv_has ls' nL ((i, x_tr base b v) :: (x_as base b L).filter (fun q => !(q.1 == i) && (!(q.1 == i + 1) && !(q.1 + 1 == i && q.2.category == 2))))) : x_R base b ls' nL (x_st2 L i v) := by
  refine ⟨h.1, h.2.1, fun j u hj => ?_⟩
  unfold x_st2 at hj
  rw [List.getElem?_set] at hj
  by_cases e : i = j
  · rw [if_pos e] at hj
    subst e
    split at hj
    · have : v = u := by simpa using hj
      subst this
      exact h.2.2 _ List.mem_cons_self
    · cases hj
  · rw [if_neg e, List.getElem?_set] at hj
    by_cases e2 : i + 1 = j
    · rw [if_pos e2] at hj
      split at hj <;> simp at hj
    · rw [if_neg e2] at hj
      obtain ⟨h1, h2⟩ := x_kill_get hj
      refine h.2.2 (j, x_tr base b u) (List.mem_cons_of_mem _ (List.mem_filter.mpr ⟨x_as_of h1, ?_⟩))
      simp only [x_tr_cat, Bool.and_eq_true, Bool.not_eq_true', beq_eq_false_iff_ne, ne_eq, Bool.and_eq_false_iff]
      refine ⟨fun z => e z.symm, fun z => e2 z.symm, ?_⟩
      by_cases z : j + 1 = i
      · exact Or.inr fun y => h2 ⟨z, y⟩
      · exact Or.inl z
/-- fewer values known -/
theorem x_R.less {base b : Nat} {ls : Array Slot} {nL : Nat} {L L' : x_L} (h : x_R base b ls nL L) (hl : ∀ (j : Nat) (v : Value), L'[j]? = some (some v) → L[j]? = some (some v)) : x_R base b ls nL L' := ⟨h.1, h.2.1, fun j v hj => h.2.2 j v (hl j v hj)⟩
def x_sub : x_L → x_L → Prop
  | [], _ => True
  | none :: l, _ :: L => x_sub l L
  | none :: l, [] => x_sub l []
  | some v :: l, u :: L => u = some v ∧ x_sub l L
  | some _ :: _, [] => False
theorem x_sub_get : ∀ (l L : x_L), x_sub l L → ∀ (j : Nat) (v : Value), l[j]? = some (some v) → L[j]? = some (some v)
  | [], _, _, j, v, hj => by simp at hj
  | none :: l, u :: L, h, 0, v, hj => by simp at hj
  | none :: l, u :: L, h, j + 1, v, hj => x_sub_get l L h j v (by simpa using hj)
  | none :: l, [], h, 0, v, hj => by simp at hj
  | none :: l, [], h, j + 1, v, hj => by
    have := x_sub_get l [] h j v (by simpa using hj)
    simp at this
  | some v0 :: l, u :: L, h, 0, v, hj => by
    have e : v0 = v := by simpa using hj
    subst e
    simpa using h.1
  | some v0 :: l, u :: L, h, j + 1, v, hj => x_sub_get l L h.2 j v (by simpa using hj)
  | some _ :: _, [], h, _, _, _ => h.elim
/-- the locals at a method's start -/
def x_en : List Value → x_L
  | [] => []
  | v :: vs => if v.category = 2 then some v :: none :: x_en vs else some v :: x_en vs
def x_entry (nL : Nat) (av : List Value) : x_L := x_en av ++ List.replicate (nL - (x_en av).length) none
theorem x_en_mem (base b : Nat) : ∀ (av : List Value) (k j : Nat) (v : Value), (x_en av)[j]? = some (some v) → (k + j, x_tr base b v) ∈ lv_args k (av.map (x_tr base b))
  | [], k, j, v, h => by simp [x_en] at h
  | u :: vs, k, j, v, h => by
    rw [List.map_cons, lv_args, x_tr_cat]
    rw [x_en] at h
    by_cases hc : u.category = 2
    · rw [if_pos hc] at h
      rw [if_pos hc]
      match j, h with
      | 0, h =>
        have e : u = v := by simpa using h
        subst e
        exact List.mem_cons_self
      | 1, h => simp at h
      | j + 2, h =>
        have := x_en_mem base b vs (k + 2) j v (by simpa using h)
        rw [show k + 2 + j = k + (j + 2) by omega] at this
        exact List.mem_cons_of_mem _ this
    · rw [if_neg hc] at h
      rw [if_neg hc]
      match j, h with
      | 0, h =>
        have e : u = v := by simpa using h
        subst e
        exact List.mem_cons_self
      | j + 1, h =>
        have := x_en_mem base b vs (k + 1) j v (by simpa using h)
        rw [show k + 1 + j = k + (j + 1) by omega] at this
        exact List.mem_cons_of_mem _ this
theorem x_R.entry {base b nL : Nat} {av : List Value} {ls : Array Slot} (h : lv_has ls nL (lv_args 0 (av.map (x_tr base b)))) : x_R base b ls nL (x_entry nL av) := by
  refine ⟨h.1, h.2.1, fun j v hj => ?_⟩
  unfold x_entry at hj
  by_cases hl : j < (x_en av).length
  · rw [List.getElem?_append_left hl] at hj
    have := x_en_mem base b av 0 j v hj
    rw [Nat.zero_add] at this
    exact h.2.2 _ this
  · rw [List.getElem?_append_right (by omega), List.getElem?_replicate] at hj
    split at hj <;> simp at hj
/-! what the picture's cells hold -/
def x_fv (w : x_W) (i ci k : Nat) : Option Value := match w[i]? with
  | some (.inr o) => if o.1 = ci then o.2[k]? else none
  | _ => none
def x_vi : Option Value → Option Int32
  | some (.int x) => some x
  | _ => none
def x_vr : Option Value → Option Nat
  | some (.ref x) => some x
  | _ => none
def x_fi (w : x_W) (i ci k : Nat) : Option Int32 := x_vi (x_fv w i ci k)
def x_fr (w : x_W) (i ci k : Nat) : Option Nat := x_vr (x_fv w i ci k)
def x_pf (w : x_W) (i ci k : Nat) (v : Value) : Option x_W := match w[i]? with
  | some (.inr o) => if o.1 = ci ∧ k < o.2.length then some (w.set i (.inr (ci, o.2.set k v))) else none
  | _ => none
def x_ai (w : x_W) (i : Nat) (j : Int32) : Option Int32 := match w[i]? with
  | some (.inl a) => if j < 0 ∨ a.1 ≤ j.toNatClampNeg then none else some (a.2 j.toNatClampNeg)
  | _ => none
def x_pa (w : x_W) (i : Nat) (j x : Int32) : Option x_W := match w[i]? with
  | some (.inl a) => if j < 0 ∨ a.1 ≤ j.toNatClampNeg then none else some (w.set i (.inl (a.1, upd a.2 j.toNatClampNeg x)))
  | _ => none
def x_cp (w : x_W) (i : Nat) (sp : Int32) (j : Nat) (dp n : Int32) : Option x_W := match w[i]?, w[j]? with
  | some (.inl a), some (.inl c) => if sp < 0 ∨ dp < 0 ∨ n < 0 ∨ a.1 < sp.toNatClampNeg + n.toNatClampNeg ∨ c.1 < dp.toNatClampNeg + n.toNatClampNeg then none else some (w.set j (.inl (c.1, va_cpy a.2 c.2 sp.toNatClampNeg dp.toNatClampNeg n.toNatClampNeg)))
  | _, _ => none
theorem x_fv_some {w : x_W} {i ci k : Nat} {v : Value} (h : x_fv w i ci k = some v) : ∃ fs, w[i]? = some (.inr (ci, fs)) ∧ fs[k]? = some v := by
  unfold x_fv at h
  split at h
  · next o ho =>
    split at h
    · next hc => exact ⟨o.2, by rw [ho, ← hc], h⟩
    · cases h
  · cases h
theorem x_fi_some {w : x_W} {i ci k : Nat} {x : Int32} (h : x_fi w i ci k = some x) : x_fv w i ci k = some (.int x) := by
  unfold x_fi x_vi at h
  split at h
  · next y hy => rw [hy]; cases h; rfl
  · cases h
theorem x_fr_some {w : x_W} {i ci k : Nat} {x : Nat} (h : x_fr w i ci k = some x) : x_fv w i ci k = some (.ref x) := by
  unfold x_fr x_vr at h
  split at h
  · next y hy => rw [hy]; cases h; rfl
  · cases h
theorem x_pf_some {w w' : x_W} {i ci k : Nat} {v : Value} (h : x_pf w i ci k v = some w') : ∃ fs, w[i]? = some (.inr (ci, fs)) ∧ k < fs.length ∧ w' = w.set i (.inr (ci, fs.set k v)) := by
  unfold x_pf at h
  split at h
  · next o ho =>
    split at h
    · next hc => exact ⟨o.2, by rw [ho, ← hc.1], hc.2, (Option.some.inj h).symm⟩
    · cases h
  · cases h
theorem x_ai_some {w : x_W} {i : Nat} {j x : Int32} (h : x_ai w i j = some x) : ∃ n f, w[i]? = some (.inl (n, f)) ∧ vp_in j n ∧ x = f j.toNatClampNeg := by
  unfold x_ai at h
  split at h
  · next a ha =>
    split at h
    · cases h
    · next hc => exact ⟨a.1, a.2, ha, hc, (Option.some.inj h).symm⟩
  · cases h
theorem x_pa_some {w w' : x_W} {i : Nat} {j x : Int32} (h : x_pa w i j x = some w') : ∃ n f, w[i]? = some (.inl (n, f)) ∧ vp_in j n ∧ w' = w.set i (.inl (n, upd f j.toNatClampNeg x)) := by
  unfold x_pa at h
  split at h
  · next a ha =>
    split at h
    · cases h
    · next hc => exact ⟨a.1, a.2, ha, hc, (Option.some.inj h).symm⟩
  · cases h
theorem x_bind {α β : Type} {o : Option α} {f : α → Option β} {r : β} (h : o.bind f = some r) : ∃ a, o = some a ∧ f a = some r := Option.bind_eq_some_iff.mp h
