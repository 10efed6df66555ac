-- words that only the start has
theorem bs_22 : (Cond.arrayOver (FieldType.object "GhostTrain$Row")) ∈ lw_tbl := List.mem_append_right _ (List.mem_of_getElem? (i := 22) (by decide +kernel))
theorem bs_151 : (Cond.arrayOver (FieldType.object "GhostTrain$Train")) ∈ lw_tbl := List.mem_append_right _ (List.mem_of_getElem? (i := 151) (by decide +kernel))
theorem bs_776 : (Cond.laysStatic "GhostTrain$Asker" "IS_TOO" "[I") ∈ lw_tbl := List.mem_append_right _ (List.mem_of_getElem? (i := 776) (by decide +kernel))
theorem bs_788 : (Cond.laysStatic "GhostTrain$Asker" "SIZE_BODY" "[I") ∈ lw_tbl := List.mem_append_right _ (List.mem_of_getElem? (i := 788) (by decide +kernel))
theorem bs_790 : (Cond.laysStatic "GhostTrain$Asker" "MARK_BODY" "[I") ∈ lw_tbl := List.mem_append_right _ (List.mem_of_getElem? (i := 790) (by decide +kernel))
theorem bg_13 : (Cond.classLink "GhostTrainLaw" (7 : Nat) "GhostTrain") ∈ gh_G := List.mem_filter.mpr ⟨List.mem_append_right _ (List.mem_of_getElem? (i := 13) (by decide +kernel)), rfl⟩
theorem bg_14 : (Cond.instantiable "GhostTrain" (10 : Nat)) ∈ gh_G := List.mem_filter.mpr ⟨List.mem_append_right _ (List.mem_of_getElem? (i := 14) (by decide +kernel)), rfl⟩
theorem bg_15 : (Cond.methodLink "GhostTrainLaw" (9 : Nat) ({ cls := "GhostTrain", name := "<init>", desc := "()V" } : MethodName)) ∈ gh_G := List.mem_filter.mpr ⟨List.mem_append_right _ (List.mem_of_getElem? (i := 15) (by decide +kernel)), rfl⟩
theorem bg_815 : (Cond.classLink "GhostTrainLaw" (10 : Nat) "GhostTrainModel") ∈ gh_G := List.mem_filter.mpr ⟨List.mem_append_right _ (List.mem_of_getElem? (i := 815) (by decide +kernel)), rfl⟩
theorem bg_816 : (Cond.instantiable "GhostTrainModel" (22 : Nat)) ∈ gh_G := List.mem_filter.mpr ⟨List.mem_append_right _ (List.mem_of_getElem? (i := 816) (by decide +kernel)), rfl⟩
theorem bg_817 : (Cond.methodLink "GhostTrainLaw" (12 : Nat) ({ cls := "GhostTrainModel", name := "<init>", desc := "()V" } : MethodName)) ∈ gh_G := List.mem_filter.mpr ⟨List.mem_append_right _ (List.mem_of_getElem? (i := 817) (by decide +kernel)), rfl⟩
theorem lw_arr {ty : FieldType} {args : Array Value} {s : State} (h : (Cond.arrayClass ty).before args s = true) : ∃ (cA : ClassId) (kA : Class) (comp : ClassId), s.vm.findClass ("[" ++ ty.toString) = some cA ∧ s.vm.classes[cA]? = some kA ∧ kA.kind = .array comp ty := by
  exact Cond.arrayClass_spec h
-- THE START: the world as it is first
theorem md_at : ∀ i a b c, mdM i a b c = if a = 40 ∧ b = 0 ∧ c < i then (-1 : Int32) else 0
  | 0, a, b, c => by
    show (0 : Int32) = _
    rw [if_neg (by omega)]
  | i + 1, a, b, c => by
    show gh_st (mdM i) 40 0 i (-1 : Int32) a b c = _
    rw [zb_st, md_at i a b c]
    by_cases q : a = 40 ∧ b = 0 ∧ c = i
    · rw [if_pos q, if_pos (by omega)]
    · rw [if_neg q]
      by_cases q2 : a = 40 ∧ b = 0 ∧ c < i
      · rw [if_pos q2, if_pos (by omega)]
      · rw [if_neg q2, if_neg (by omega)]
theorem md_0 {a b c : Nat} (h : a ≠ 40) : mdM 8 a b c = 0 := by rw [md_at, if_neg (fun q => h q.1)]
theorem md_ok : OKn (mdM 8) := by
  refine ⟨((fun _ => none, fun _ => 0, fun _ _ => 0), (0, fun _ => 0), (0, 0), (0, fun _ => 0), none, (0, fun _ _ => 0), fun _ => none), ⟨fun t ht => ⟨fun i hi => Or.inl (md_0 (by omega)), fun i hi => Or.inl (md_0 (by omega))⟩, fun r hr => md_0 (by omega), ⟨Nat.zero_le _, md_0 (by omega), fun i hi => absurd hi (Nat.not_lt_zero _)⟩, md_0 (by omega), md_0 (by omega), ⟨Nat.zero_le _, md_0 (by omega), fun i hi => absurd hi (Nat.not_lt_zero _)⟩, ⟨md_0 (by omega), md_0 (by omega), md_0 (by omega), md_0 (by omega)⟩, ⟨Nat.zero_le _, md_0 (by omega), ⟨0, by omega, md_0 (by omega), fun X hX => by cases hX⟩, fun _ => rfl⟩, fun k hk => md_0 (by omega), Or.inl (md_0 (by omega))⟩, ⟨fun r hr => ?_, ⟨md_0 (by omega), fun i hi => absurd hi (Nat.not_lt_zero _)⟩, md_0 (by omega), md_0 (by omega), ⟨md_0 (by omega), fun i hi => absurd hi (Nat.not_lt_zero _)⟩, ⟨md_0 (by omega), md_0 (by omega), md_0 (by omega), md_0 (by omega)⟩, ⟨md_0 (by omega), fun i hi => absurd hi (Nat.not_lt_zero _)⟩, ⟨md_0 (by omega), fun k hk X hX => by cases hX⟩⟩⟩
  show mdM 8 40 0 r = (-1 : Int32)
  rw [md_at, if_pos ⟨rfl, rfl, hr⟩]
/-- when all is made -/
theorem gn_all {wd : gh_Wd} {M : gh_M} {H : Heap} (hP : va_P wd.1 gh_cls (gn_ws wd 479 477 M) H) : va_P wd.1 gh_cls (gh_ws wd M) H := by
  intro i p hp
  obtain ⟨q, hq, rfl⟩ := gh_ws_of wd M hp
  obtain ⟨k, t⟩ := q
  have hm : (k, t) ∈ gh_all := List.mem_of_getElem? hq
  unfold gh_all at hm
  obtain ⟨k', hk', hm2⟩ := List.mem_flatMap.mp hm
  obtain ⟨t', ht', e⟩ := List.mem_map.mp hm2
  injection e with e1 e2
  subst e1 e2
  have hk := List.mem_range.mp hk'
  have ht := List.mem_range.mp ht'
  have ho : odr k' t' < 479 := by rw [← gh_ord_len]; exact (List.getElem?_eq_some_iff.mp (gn_at hk ht)).1
  have h := hP _ _ (gn_ws_at (wd := wd) (v := 477) (M := M) hk ht ho)
  show va_at wd.1 gh_cls (wd.2.1 k' t', gh_ce wd M k' t') H
  cases har : gh_ar k' with
  | none =>
    rw [gn_ce_o har] at h
    rw [gh_ce_o wd M t' har]
    have e : gn_fv wd 477 M k' t' = gh_fv wd M k' t' := funext fun j => by
      unfold gn_fv gh_fv
      cases hj : (gh_fl k' t')[j]? with
      | none => rfl
      | some o => cases o with
        | none => rfl
        | some z =>
          show (if evn z.1 z.2 < 477 then Value.ref (wd.2.1 z.1 z.2) else .null) = .ref (wd.2.1 z.1 z.2)
          rw [if_pos (evn_lt z.1 z.2)]
    rw [e] at h
    exact h
  | some w =>
    obtain ⟨a, N⟩ := w
    match a, har with
    | 0, har =>
      rw [gn_ce_i har] at h
      rw [gh_ce_i wd M t' har]
      exact h
    | 1, har =>
      rw [gn_ce_z har] at h
      rw [gh_ce_z wd M t' har]
      exact h
    | a + 2, har =>
      rw [gn_ce_r har] at h
      rw [gh_ce_r wd M t' har]
      have h : H[wd.2.1 k' t']? = some (vp_cell (wd.2.2.1 (a + 2)) (N, .inr (.inr (.inr (.inr (fun i => if i < N ∧ evn (gh_el k' i).1 (gh_el k' i).2 < 477 then some (wd.2.1 (gh_el k' i).1 (gh_el k' i).2) else none)))))) := h
      show H[wd.2.1 k' t']? = some (vp_cell (wd.2.2.1 (a + 2)) (N, .inr (.inr (.inr (.inr (fun i => some (wd.2.1 (gh_el k' i).1 (gh_el k' i).2)))))))
      rw [h, vp_cell_q, vp_cell_q]
      unfold arrV
      congr 2
      apply congrArg
      funext j
      show va_rf (if j.1 < N ∧ evn (gh_el k' j.1).1 (gh_el k' j.1).2 < 477 then some (wd.2.1 (gh_el k' j.1).1 (gh_el k' j.1).2) else none) = va_rf (some (wd.2.1 (gh_el k' j.1).1 (gh_el k' j.1).2))
      rw [if_pos ⟨j.2, evn_lt _ _⟩]
theorem gh_all_nd : gh_all.Nodup := by decide +kernel
theorem gh_D0 {wd : gh_Wd} (hB : gn_B wd) : va_D (gh_A wd) (gh_ws wd (fun _ _ _ => 0)) := by
  have nm : ∀ {i : Nat} {q : Nat × Nat}, gh_all[i]? = some q → q.1 < 45 ∧ q.2 < gh_cnt q.1 := fun {i q} hq => by
    have hm : q ∈ gh_all := List.mem_of_getElem? hq
    unfold gh_all at hm
    obtain ⟨k', hk', hm2⟩ := List.mem_flatMap.mp hm
    obtain ⟨t', ht', e⟩ := List.mem_map.mp hm2
    subst e
    exact ⟨List.mem_range.mp hk', List.mem_range.mp ht'⟩
  refine ⟨fun i j p q hi hj e => ?_, fun i p hi => ?_⟩
  · obtain ⟨a, ha, rfl⟩ := gh_ws_of wd _ hi
    obtain ⟨b, hb, rfl⟩ := gh_ws_of wd _ hj
    have e : wd.2.1 a.1 a.2 = wd.2.1 b.1 b.2 := e
    rw [hB _ _ (nm ha).1, hB _ _ (nm hb).1] at e
    have e2 : odr a.1 a.2 = odr b.1 b.2 := by omega
    have g1 := gn_at (nm ha).1 (nm ha).2
    have g2 := gn_at (nm hb).1 (nm hb).2
    rw [e2, g2] at g1
    have e3 : b = a := Option.some.inj g1
    subst e3
    exact (List.getElem?_inj (List.getElem?_eq_some_iff.mp ha).1 gh_all_nd).mp (ha.trans hb.symm)
  · obtain ⟨a, ha, rfl⟩ := gh_ws_of wd _ hi
    show wd.2.2.2 ≤ wd.2.1 a.1 a.2
    rw [hB _ _ (nm ha).1]
    omega
theorem st_0 {args : Array Value} {s : State} (hgv : (Jvm.Cond.and given_1 narrow_1).before args s = true) {A : Nat → Prop} (hA : ∀ a : Nat, a < s.heap.size → ¬ A a) (hl : (Cond.laysStatic "GhostTrain$Asker" "IS_TOO" "[I").before args s = true) (hini : (Cond.initialized "GhostTrain$Asker").before args s = true) : ∃ t : Nat, va_Z RX1 (gh_sn 0) "[I" (.ref t) A s s.heap ∧ va_T .int t 6 (fun j => .int (gh_tab 0 j)) A s s.heap := by
  have hs := flat_of_before _ hgv
  have hel : ∀ j : Nat, j < 6 → (Term.elem (.static "GhostTrain$Asker" "IS_TOO" "[I") (.int (Int32.ofNat j))).eval args s none [] s = some ((fun j => Value.int (gh_tab 0 j)) j) := fun j hj => match j, hj with
    | 0, _ => va_eqt (hs (Cond.eq (.elem (.static "GhostTrain$Asker" "IS_TOO" "[I") (.int 0)) (.int (-1))) (by decide +kernel))
    | 1, _ => va_eqt (hs (Cond.eq (.elem (.static "GhostTrain$Asker" "IS_TOO" "[I") (.int 1)) (.int (0))) (by decide +kernel))
    | 2, _ => va_eqt (hs (Cond.eq (.elem (.static "GhostTrain$Asker" "IS_TOO" "[I") (.int 2)) (.int (1))) (by decide +kernel))
    | 3, _ => va_eqt (hs (Cond.eq (.elem (.static "GhostTrain$Asker" "IS_TOO" "[I") (.int 3)) (.int (1))) (by decide +kernel))
    | 4, _ => va_eqt (hs (Cond.eq (.elem (.static "GhostTrain$Asker" "IS_TOO" "[I") (.int 4)) (.int (0))) (by decide +kernel))
    | 5, _ => va_eqt (hs (Cond.eq (.elem (.static "GhostTrain$Asker" "IS_TOO" "[I") (.int 5)) (.int (4))) (by decide +kernel))
    | j + 6, hj => absurd hj (by omega)
  obtain ⟨t, h1, h2⟩ := va_Tof (tm := (.static "GhostTrain$Asker" "IS_TOO" "[I")) (ty := .int) (N := 6) (f := fun j => .int (gh_tab 0 j)) (A := A) (by decide) (hs (Cond.arrayOf (.static "GhostTrain$Asker" "IS_TOO" "[I") .int) (by decide +kernel)) (va_eqt (hs (Cond.eq (.length (.static "GhostTrain$Asker" "IS_TOO" "[I")) (.int 6)) (by decide +kernel))) hel hA
  exact ⟨t, va_Zof hl hini h1 hA, h2⟩
theorem st_1 {args : Array Value} {s : State} (hgv : (Jvm.Cond.and given_1 narrow_1).before args s = true) {A : Nat → Prop} (hA : ∀ a : Nat, a < s.heap.size → ¬ A a) (hl : (Cond.laysStatic "GhostTrain$Asker" "MARK_BODY" "[I").before args s = true) (hini : (Cond.initialized "GhostTrain$Asker").before args s = true) : ∃ t : Nat, va_Z RX1 (gh_sn 1) "[I" (.ref t) A s s.heap ∧ va_T .int t 6 (fun j => .int (gh_tab 1 j)) A s s.heap := by
  have hs := flat_of_before _ hgv
  have hel : ∀ j : Nat, j < 6 → (Term.elem (.static "GhostTrain$Asker" "MARK_BODY" "[I") (.int (Int32.ofNat j))).eval args s none [] s = some ((fun j => Value.int (gh_tab 1 j)) j) := fun j hj => match j, hj with
    | 0, _ => va_eqt (hs (Cond.eq (.elem (.static "GhostTrain$Asker" "MARK_BODY" "[I") (.int 0)) (.int (20))) (by decide +kernel))
    | 1, _ => va_eqt (hs (Cond.eq (.elem (.static "GhostTrain$Asker" "MARK_BODY" "[I") (.int 1)) (.int (21))) (by decide +kernel))
    | 2, _ => va_eqt (hs (Cond.eq (.elem (.static "GhostTrain$Asker" "MARK_BODY" "[I") (.int 2)) (.int (24))) (by decide +kernel))
    | 3, _ => va_eqt (hs (Cond.eq (.elem (.static "GhostTrain$Asker" "MARK_BODY" "[I") (.int 3)) (.int (22))) (by decide +kernel))
    | 4, _ => va_eqt (hs (Cond.eq (.elem (.static "GhostTrain$Asker" "MARK_BODY" "[I") (.int 4)) (.int (23))) (by decide +kernel))
    | 5, _ => va_eqt (hs (Cond.eq (.elem (.static "GhostTrain$Asker" "MARK_BODY" "[I") (.int 5)) (.int (23))) (by decide +kernel))
    | j + 6, hj => absurd hj (by omega)
  obtain ⟨t, h1, h2⟩ := va_Tof (tm := (.static "GhostTrain$Asker" "MARK_BODY" "[I")) (ty := .int) (N := 6) (f := fun j => .int (gh_tab 1 j)) (A := A) (by decide) (hs (Cond.arrayOf (.static "GhostTrain$Asker" "MARK_BODY" "[I") .int) (by decide +kernel)) (va_eqt (hs (Cond.eq (.length (.static "GhostTrain$Asker" "MARK_BODY" "[I")) (.int 6)) (by decide +kernel))) hel hA
  exact ⟨t, va_Zof hl hini h1 hA, h2⟩
theorem st_2 {args : Array Value} {s : State} (hgv : (Jvm.Cond.and given_1 narrow_1).before args s = true) {A : Nat → Prop} (hA : ∀ a : Nat, a < s.heap.size → ¬ A a) (hl : (Cond.laysStatic "GhostTrain$Asker" "SIZE_BODY" "[I").before args s = true) (hini : (Cond.initialized "GhostTrain$Asker").before args s = true) : ∃ t : Nat, va_Z RX1 (gh_sn 2) "[I" (.ref t) A s s.heap ∧ va_T .int t 6 (fun j => .int (gh_tab 2 j)) A s s.heap := by
  have hs := flat_of_before _ hgv
  have hel : ∀ j : Nat, j < 6 → (Term.elem (.static "GhostTrain$Asker" "SIZE_BODY" "[I") (.int (Int32.ofNat j))).eval args s none [] s = some ((fun j => Value.int (gh_tab 2 j)) j) := fun j hj => match j, hj with
    | 0, _ => va_eqt (hs (Cond.eq (.elem (.static "GhostTrain$Asker" "SIZE_BODY" "[I") (.int 0)) (.int (10))) (by decide +kernel))
    | 1, _ => va_eqt (hs (Cond.eq (.elem (.static "GhostTrain$Asker" "SIZE_BODY" "[I") (.int 1)) (.int (11))) (by decide +kernel))
    | 2, _ => va_eqt (hs (Cond.eq (.elem (.static "GhostTrain$Asker" "SIZE_BODY" "[I") (.int 2)) (.int (12))) (by decide +kernel))
    | 3, _ => va_eqt (hs (Cond.eq (.elem (.static "GhostTrain$Asker" "SIZE_BODY" "[I") (.int 3)) (.int (11))) (by decide +kernel))
    | 4, _ => va_eqt (hs (Cond.eq (.elem (.static "GhostTrain$Asker" "SIZE_BODY" "[I") (.int 4)) (.int (13))) (by decide +kernel))
    | 5, _ => va_eqt (hs (Cond.eq (.elem (.static "GhostTrain$Asker" "SIZE_BODY" "[I") (.int 5)) (.int (14))) (by decide +kernel))
    | j + 6, hj => absurd hj (by omega)
  obtain ⟨t, h1, h2⟩ := va_Tof (tm := (.static "GhostTrain$Asker" "SIZE_BODY" "[I")) (ty := .int) (N := 6) (f := fun j => .int (gh_tab 2 j)) (A := A) (by decide) (hs (Cond.arrayOf (.static "GhostTrain$Asker" "SIZE_BODY" "[I") .int) (by decide +kernel)) (va_eqt (hs (Cond.eq (.length (.static "GhostTrain$Asker" "SIZE_BODY" "[I")) (.int 6)) (by decide +kernel))) hel hA
  exact ⟨t, va_Zof hl hini h1 hA, h2⟩
/-- what the statement gives of the start -/
theorem lw_wd {p : Program} {s : State} {m : MethodId} {meth : Method} {c : Code} {b L : Nat} {xs : Nat → Int32} (C0 : lw_At p s m meth c b L xs) : ∃ wd : gh_Wd, gn_Ok wd s ∧ wd.2.2.2 = s.heap.size ∧ wd.2.1 70 0 = b := by
  obtain ⟨hx, hb, hr, hml, hown, hts, hX, hbl, hlocks, hgv⟩ := C0
  have hG : ∀ w ∈ gh_G, w.before #[Value.ref b] s = true := fun w hw => hts w (List.mem_filter.mp hw).1
  obtain ⟨c0, i0, k0⟩ := u_known (C := RX0) (T := TX0) (N := 3) (n := 3) hG (gh_in (ci := 0) rfl) (hG _ bw_145)
  obtain ⟨c1, i1, k1⟩ := u_known (C := RX1) (T := TX1) (N := 2) (n := 2) hG (gh_in (ci := 1) rfl) (hG _ bw_203)
  obtain ⟨c2, i2, k2⟩ := u_known (C := RX2) (T := TX2) (N := 9) (n := 9) hG (gh_in (ci := 2) rfl) (hG _ bw_165)
  obtain ⟨c3, i3, k3⟩ := u_known (C := RX3) (T := TX3) (N := 4) (n := 4) hG (gh_in (ci := 3) rfl) (hG _ bw_217)
  obtain ⟨c4, i4, k4⟩ := u_known (C := RX4) (T := TX4) (N := 4) (n := 4) hG (gh_in (ci := 4) rfl) (hG _ bw_24)
  obtain ⟨c5, i5, k5⟩ := u_known (C := RX5) (T := TX5) (N := 19) (n := 19) hG (gh_in (ci := 5) rfl) (hG _ bw_48)
  obtain ⟨c6, i6, k6⟩ := u_known (C := RX6) (T := TX6) (N := 10) (n := 10) hG (gh_in (ci := 6) rfl) (hG _ bg_14)
  obtain ⟨c7, i7, k7⟩ := u_known (C := RX7) (T := TX7) (N := 22) (n := 22) hG (gh_in (ci := 7) rfl) (hG _ bg_816)
  obtain ⟨dC, dI, hKc⟩ : ∃ (dC : Nat → ClassId) (dI : Nat → Nat → Nat), ∀ (k : Nat) (q : vw_C), gh_cls[k]? = some q → u_Kn s q.1 q.2.1 q.2.2 (dC k) (dI k) := by
    refine ⟨fun k => if k = 0 then c0 else if k = 1 then c1 else if k = 2 then c2 else if k = 3 then c3 else if k = 4 then c4 else if k = 5 then c5 else if k = 6 then c6 else c7, fun k => if k = 0 then i0 else if k = 1 then i1 else if k = 2 then i2 else if k = 3 then i3 else if k = 4 then i4 else if k = 5 then i5 else if k = 6 then i6 else i7, ?_⟩
    intro k q hq
    match k, hq with
    | 0, hq => cases hq; exact k0
    | 1, hq => cases hq; exact k1
    | 2, hq => cases hq; exact k2
    | 3, hq => cases hq; exact k3
    | 4, hq => cases hq; exact k4
    | 5, hq => cases hq; exact k5
    | 6, hq => cases hq; exact k6
    | 7, hq => cases hq; exact k7
    | k + 8, hq => simp [gh_cls] at hq
  obtain ⟨a0, ka0, co0, f01, f02, f03⟩ := lw_arr (hG _ bw_46)
  obtain ⟨a1, ka1, co1, f11, f12, f13⟩ := lw_arr (hG _ bw_143)
  obtain ⟨co2, a2, ka2, f21, f22, f23, f24, f25⟩ := Cond.arrayOver_spec (hts _ bs_22)
  obtain ⟨co3, a3, ka3, f31, f32, f33, f34, f35⟩ := Cond.arrayOver_spec (hts _ bs_151)
  have hA : ∀ a : Nat, a < s.heap.size → ¬ (fun q : Nat => s.heap.size ≤ q) a := fun a h1 h2 => absurd h2 (by omega)
  have hini : (Cond.initialized "GhostTrain$Asker").before #[Value.ref b] s = true := hG _ bw_6
  obtain ⟨t0, z0, y0⟩ := st_0 hgv hA (hts _ bs_776) hini
  obtain ⟨t1, z1, y1⟩ := st_1 hgv hA (hts _ bs_790) hini
  obtain ⟨t2, z2, y2⟩ := st_2 hgv hA (hts _ bs_788) hini
  have hB : gn_B ((dC, dI), (fun k t => if k < 45 then s.heap.size + odr k t else if k = 70 then b else if k = 60 then t0 else if k = 61 then t1 else t2), (fun k => if k = 0 then a0 else if k = 1 then a1 else if k = 2 then a2 else a3), s.heap.size) := fun k t hk => by
    show (if k < 45 then s.heap.size + odr k t else _) = _
    rw [if_pos hk]
  refine ⟨((dC, dI), (fun k t => if k < 45 then s.heap.size + odr k t else if k = 70 then b else if k = 60 then t0 else if k = 61 then t1 else t2), (fun k => if k = 0 then a0 else if k = 1 then a1 else if k = 2 then a2 else a3), s.heap.size), ⟨⟨⟨hKc, fun k q hq => ?_⟩, gh_D0 hB, fun w hw hn => va_Nw.of (by cases w <;> first | rfl | cases hn) (hts w hw), fun i hi => ?_⟩, hB, va_AO.of (hts _ bs_22), va_AO.of (hts _ bs_151)⟩, rfl, rfl⟩
  · match k, hq with
    | 0, hq => cases hq; exact ⟨fun n z => ⟨fun k h => (by cases h), ka0, f02, co0, f03⟩, f01⟩
    | 1, hq => cases hq; exact ⟨fun n z => ⟨fun k h => (by cases h), ka1, f12, co1, f13⟩, f11⟩
    | 2, hq => cases hq; exact ⟨fun n z => ⟨fun k h => (by cases h), ka2, f23, co2, f24⟩, ka2, co2, f23, f24, f21, f25⟩
    | 3, hq => cases hq; exact ⟨fun n z => ⟨fun k h => (by cases h), ka3, f33, co3, f34⟩, ka3, co3, f33, f34, f31, f35⟩
    | k + 4, hq => simp [gh_tys] at hq
  · match i, hi with
    | 0, _ => exact ⟨z0, y0⟩
    | 1, _ => exact ⟨z1, y1⟩
    | 2, _ => exact ⟨z2, y2⟩
    | i + 3, hi => exact absurd hi (by omega)
