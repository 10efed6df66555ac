-- the cells of the world, by their names
theorem gh_mem {k t : Nat} (hk : k < 45) (ht : t < gh_cnt k) : ∃ q0 : Nat, gh_all[q0]? = some (k, t) := by
  have h : (k, t) ∈ gh_all := by
    unfold gh_all
    exact List.mem_flatMap.mpr ⟨k, List.mem_range.mpr hk, List.mem_map.mpr ⟨t, List.mem_range.mpr ht, rfl⟩⟩
  exact List.getElem?_of_mem h
theorem gh_ws_at (wd : gh_Wd) (M : gh_M) {q0 k t : Nat} (h : gh_all[q0]? = some (k, t)) : (gh_ws wd M)[q0]? = some (wd.2.1 k t, gh_ce wd M k t) := by
  unfold gh_ws
  rw [List.getElem?_map, h]
  rfl
theorem gh_ws_of (wd : gh_Wd) (M : gh_M) {i : Nat} {p : Nat × va_E} (h : (gh_ws wd M)[i]? = some p) : ∃ q : Nat × Nat, gh_all[i]? = some q ∧ p = (wd.2.1 q.1 q.2, gh_ce wd M q.1 q.2) := by
  unfold gh_ws at h
  rw [List.getElem?_map] at h
  cases hq : gh_all[i]? with
  | none => rw [hq] at h; cases h
  | some q => rw [hq] at h; exact ⟨q, rfl, (Option.some.inj h).symm⟩
theorem gh_D_any {wd : gh_Wd} {A : Nat → Prop} {M0 : gh_M} (M : gh_M) (h : va_D A (gh_ws wd M0)) : va_D A (gh_ws wd M) := by
  refine ⟨fun i j p q hi hj e => ?_, fun k q hk => ?_⟩
  · obtain ⟨a, ha, rfl⟩ := gh_ws_of wd M hi
    obtain ⟨b, hb, rfl⟩ := gh_ws_of wd M hj
    exact h.1 i j _ _ (gh_ws_at wd M0 ha) (gh_ws_at wd M0 hb) e
  · obtain ⟨a, ha, rfl⟩ := gh_ws_of wd M hk
    exact h.2 k (wd.2.1 a.1 a.2, gh_ce wd M0 a.1 a.2) (gh_ws_at wd M0 ha)
theorem gh_fv_loc (wd : gh_Wd) {M N : gh_M} {k t : Nat} (h : M k t = N k t) (i : Nat) : gh_fv wd M k t i = gh_fv wd N k t i := by
  unfold gh_fv
  rw [h]
theorem gh_ce_loc (wd : gh_Wd) {M N : gh_M} {k t : Nat} (h : M k t = N k t) : gh_ce wd M k t = gh_ce wd N k t := by
  have e : gh_fv wd M k t = gh_fv wd N k t := funext (gh_fv_loc wd h)
  unfold gh_ce
  rw [h, e]
theorem gh_row_self (M : gh_M) (k t : Nat) (f : Nat → Int32) : gh_row M k t f k t = f := by
  unfold gh_row
  rw [if_pos ⟨rfl, rfl⟩]
theorem gh_row_ne (M : gh_M) {k t : Nat} (f : Nat → Int32) {a b : Nat} (h : ¬ (a = k ∧ b = t)) : gh_row M k t f a b = M a b := by
  unfold gh_row
  rw [if_neg h]
theorem gh_set {wd : gh_Wd} {A : Nat → Prop} {M : gh_M} (hD : va_D A (gh_ws wd M)) {q0 k t : Nat} (h : gh_all[q0]? = some (k, t)) (f : Nat → Int32) {e : va_E} (he : gh_ce wd (gh_row M k t f) k t = e) :
    (gh_ws wd M).set q0 (wd.2.1 k t, e) = gh_ws wd (gh_row M k t f) := by
  subst he
  apply List.ext_getElem?
  intro i
  have hl : q0 < (gh_ws wd M).length := (List.getElem?_eq_some_iff.mp (gh_ws_at wd M h)).1
  by_cases hi : q0 = i
  · subst hi
    rw [List.getElem?_set_self hl, gh_ws_at wd (gh_row M k t f) h]
  · rw [List.getElem?_set_ne hi]
    unfold gh_ws
    rw [List.getElem?_map, List.getElem?_map]
    cases hq : gh_all[i]? with
    | none => rfl
    | some q =>
      have hne : ¬ (q.1 = k ∧ q.2 = t) := by
        rintro ⟨h1, h2⟩
        refine hi (hD.1 q0 i _ _ (gh_ws_at wd M h) (gh_ws_at wd M (q0 := i) (k := q.1) (t := q.2) hq) ?_)
        show wd.2.1 k t = wd.2.1 q.1 q.2
        rw [h1, h2]
      have e := gh_ce_loc wd (M := gh_row M k t f) (N := M) (k := q.1) (t := q.2) (gh_row_ne M f hne)
      show some (wd.2.1 q.1 q.2, gh_ce wd M q.1 q.2) = some (wd.2.1 q.1 q.2, gh_ce wd (gh_row M k t f) q.1 q.2)
      rw [e]
theorem gh_ce_i (wd : gh_Wd) (M : gh_M) {k n : Nat} (t : Nat) (h : gh_ar k = some (0, n)) : gh_ce wd M k t = .inl (wd.2.2.1 0, n, .inl (M k t)) := by
  unfold gh_ce
  rw [h]
  rfl
theorem gh_ce_z (wd : gh_Wd) (M : gh_M) {k n : Nat} (t : Nat) (h : gh_ar k = some (1, n)) : gh_ce wd M k t = .inl (wd.2.2.1 1, n, .inl (M k t)) := by
  unfold gh_ce
  rw [h]
  rfl
theorem gh_ce_r (wd : gh_Wd) (M : gh_M) {k n a : Nat} (t : Nat) (h : gh_ar k = some (a + 2, n)) : gh_ce wd M k t = .inl (wd.2.2.1 (a + 2), n, .inr (.inr (.inr (.inr (fun i => some (wd.2.1 (gh_el k i).1 (gh_el k i).2)))))) := by
  unfold gh_ce
  rw [h]
  rfl
theorem gh_ce_o (wd : gh_Wd) (M : gh_M) {k : Nat} (t : Nat) (h : gh_ar k = none) : gh_ce wd M k t = .inr (gh_ci k, (List.range (gh_fl k t).length).map (gh_fv wd M k t)) := by
  unfold gh_ce
  rw [h]
theorem gh_fs_at (wd : gh_Wd) (M : gh_M) {k t j : Nat} {f : Option (Nat × Nat)} (h : (gh_fl k t)[j]? = some f) : ((List.range (gh_fl k t).length).map (gh_fv wd M k t))[j]? = some (gh_fv wd M k t j) := by
  have hl : j < (gh_fl k t).length := (List.getElem?_eq_some_iff.mp h).1
  rw [List.getElem?_map, List.getElem?_range hl]
  rfl
theorem gh_fs_set (wd : gh_Wd) (M : gh_M) {k t j : Nat} (v : Int32) (h : (gh_fl k t)[j]? = some none) :
    ((List.range (gh_fl k t).length).map (gh_fv wd M k t)).set j (.int v) = (List.range (gh_fl k t).length).map (gh_fv wd (gh_st M k t j v) k t) := by
  have hl : j < (gh_fl k t).length := (List.getElem?_eq_some_iff.mp h).1
  apply List.ext_getElem?
  intro i
  by_cases hi : j = i
  · subst hi
    rw [List.getElem?_set_self (by simp; exact hl), List.getElem?_map, List.getElem?_range hl]
    show some (Value.int v) = some (gh_fv wd (gh_st M k t j v) k t j)
    unfold gh_fv
    rw [h]
    show some (Value.int v) = some (Value.int (gh_st M k t j v k t j))
    unfold gh_st
    rw [gh_row_self]
    show some (Value.int v) = some (Value.int (if j = j then v else _))
    rw [if_pos rfl]
  · rw [List.getElem?_set_ne hi, List.getElem?_map, List.getElem?_map]
    cases hq : (List.range (gh_fl k t).length)[i]? with
    | none => rfl
    | some z =>
      have hz : z = i := by
        have h1 := List.getElem?_eq_some_iff.mp hq
        obtain ⟨h2, h3⟩ := h1
        rw [List.getElem_range] at h3
        exact h3.symm
      subst hz
      show some (gh_fv wd M k t z) = some (gh_fv wd (gh_st M k t j v) k t z)
      unfold gh_fv gh_st
      rw [gh_row_self]
      have hne : z ≠ j := fun e => hi e.symm
      cases (gh_fl k t)[z]? with
      | none => simp [upd, hne]
      | some o => cases o with
        | none => simp [upd, hne]
        | some q => rfl
-- locals
theorem gh_pr_mem {wd : gh_Wd} {L : List (Option gh_V)} {i : Nat} {y : Value} : (i, y) ∈ gh_pr wd L ↔ ∃ v, L[i]? = some (some v) ∧ y = gh_tv wd v := by
  unfold gh_pr
  rw [List.mem_filterMap]
  constructor
  · rintro ⟨⟨o, j⟩, h1, h2⟩
    rw [List.mem_zipIdx_iff_getElem?] at h1
    cases o with
    | none => cases h2
    | some v =>
      have h3 := Option.some.inj h2
      have e1 : j = i := congrArg Prod.fst h3
      have e2 : gh_tv wd v = y := congrArg Prod.snd h3
      subst e1
      exact ⟨v, h1, e2.symm⟩
  · rintro ⟨v, h1, rfl⟩
    exact ⟨(some v, i), List.mem_zipIdx_iff_getElem?.mpr h1, rfl⟩
theorem gh_L_at {wd : gh_Wd} {ls : Array Slot} {nL : Nat} {L : List (Option gh_V)} (h : gh_L wd ls nL L) {i : Nat} {v : gh_V} (hv : L[i]? = some (some v)) : ls[i]? = some (.val (gh_tv wd v)) :=
  h.2.2 (i, gh_tv wd v) (gh_pr_mem.mpr ⟨v, hv, rfl⟩)
/-- no long stands just ahead of a place -/
def gh_nl (L : List (Option gh_V)) (i : Nat) : Bool := match i with
  | 0 => true
  | j + 1 => match L[j]? with
    | some (some (.inr (.inl _))) => false
    | _ => true
theorem gh_nl_cat {wd : gh_Wd} {L : List (Option gh_V)} {i j : Nat} {v : gh_V} (hn : gh_nl L i = true) (hj : j + 1 = i) (hv : L[j]? = some (some v)) : (gh_tv wd v).category = 1 := by
  subst hj
  change (match L[j]? with
    | some (some (.inr (.inl _))) => false
    | _ => true) = true at hn
  rw [hv] at hn
  rcases v with a | b | q
  · rfl
  · cases hn
  · rfl
theorem gh_L_s1 {wd : gh_Wd} {ls : Array Slot} {nL : Nat} {L : List (Option gh_V)} (h : gh_L wd ls nL L) {i : Nat} (v : gh_V) (hn : gh_nl L i = true) {ls' : Array Slot}
    (hs : lv_has ls' nL ((i, gh_tv wd v) :: (gh_pr wd L).filter (fun q => !(q.1 == i) && !(q.1 + 1 == i && q.2.category == 2)))) : gh_L wd ls' nL (L.set i (some v)) := by
  refine ⟨hs.1, hs.2.1, fun q hq => ?_⟩
  obtain ⟨j, y⟩ := q
  obtain ⟨w, hw, rfl⟩ := gh_pr_mem.mp hq
  apply hs.2.2
  by_cases hj : i = j
  · subst hj
    have hl : i < L.length := by
      have := (List.getElem?_eq_some_iff.mp hw).1
      rwa [List.length_set] at this
    rw [List.getElem?_set_self hl] at hw
    cases hw
    exact List.mem_cons_self
  · rw [List.getElem?_set_ne hj] at hw
    refine List.mem_cons_of_mem _ (List.mem_filter.mpr ⟨gh_pr_mem.mpr ⟨w, hw, rfl⟩, ?_⟩)
    have h1 : ¬ j = i := fun e => hj e.symm
    by_cases h2 : j + 1 = i
    · have h3 := gh_nl_cat (wd := wd) hn h2 hw
      simp [h1, h3]
    · simp [h1, h2]
theorem gh_L_s2 {wd : gh_Wd} {ls : Array Slot} {nL : Nat} {L : List (Option gh_V)} (h : gh_L wd ls nL L) {i : Nat} (v : gh_V) (hn : gh_nl L i = true) {ls' : Array Slot}
    (hs : lv_has ls' nL ((i, gh_tv wd v) :: (gh_pr wd L).filter (fun q => !(q.1 == i) && (!(q.1 == i + 1) && !(q.1 + 1 == i && q.2.category == 2))))) : gh_L wd ls' nL ((L.set i (some v)).set (i + 1) none) := by
  refine ⟨hs.1, hs.2.1, fun q hq => ?_⟩
  obtain ⟨j, y⟩ := q
  obtain ⟨w, hw, rfl⟩ := gh_pr_mem.mp hq
  apply hs.2.2
  by_cases hj2 : i + 1 = j
  · subst hj2
    have hl : i + 1 < (L.set i (some v)).length := by
      have := (List.getElem?_eq_some_iff.mp hw).1
      rwa [List.length_set] at this
    rw [List.getElem?_set_self hl] at hw
    cases hw
  · rw [List.getElem?_set_ne hj2] at hw
    by_cases hj : i = j
    · subst hj
      have hl : i < L.length := by
        have := (List.getElem?_eq_some_iff.mp hw).1
        rwa [List.length_set] at this
      rw [List.getElem?_set_self hl] at hw
      cases hw
      exact List.mem_cons_self
    · rw [List.getElem?_set_ne hj] at hw
      refine List.mem_cons_of_mem _ (List.mem_filter.mpr ⟨gh_pr_mem.mpr ⟨w, hw, rfl⟩, ?_⟩)
      have h1 : ¬ j = i := fun e => hj e.symm
      have h0 : ¬ j = i + 1 := fun e => hj2 e.symm
      by_cases h2 : j + 1 = i
      · have h3 := gh_nl_cat (wd := wd) hn h2 hw
        simp [h1, h0, h3]
      · simp [h1, h0, h2]
/-- fewer locals -/
def gh_le : List (Option gh_V) → List (Option gh_V) → Prop
  | [], _ => True
  | none :: a, _ :: b => gh_le a b
  | some v :: a, w :: b => w = some v ∧ gh_le a b
  | _ :: _, [] => False
theorem gh_le_at : ∀ {a b : List (Option gh_V)}, gh_le a b → ∀ {i : Nat} {v : gh_V}, a[i]? = some (some v) → b[i]? = some (some v)
  | [], _, _, i, v, h => by simp at h
  | none :: a, w :: b, hab, 0, v, h => by simp at h
  | none :: a, w :: b, hab, i + 1, v, h => by
    rw [List.getElem?_cons_succ] at h ⊢
    exact gh_le_at (a := a) (b := b) hab h
  | some u :: a, w :: b, hab, 0, v, h => by
    rw [List.getElem?_cons_zero] at h ⊢
    rw [hab.1]
    exact h
  | some u :: a, w :: b, hab, i + 1, v, h => by
    rw [List.getElem?_cons_succ] at h ⊢
    exact gh_le_at (a := a) (b := b) hab.2 h
  | none :: a, [], hab, _, _, _ => hab.elim
  | some u :: a, [], hab, _, _, _ => hab.elim
theorem gh_L_le {wd : gh_Wd} {ls : Array Slot} {nL : Nat} {L L' : List (Option gh_V)} (hle : gh_le L' L) (h : gh_L wd ls nL L) : gh_L wd ls nL L' := by
  refine ⟨h.1, h.2.1, fun q hq => ?_⟩
  obtain ⟨j, y⟩ := q
  obtain ⟨w, hw, rfl⟩ := gh_pr_mem.mp hq
  exact gh_L_at h (gh_le_at hle hw)
