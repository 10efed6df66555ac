-- what holds everywhere goes along with the state
theorem gh_Nw_warm {w : Cond} (hw : gh_isN w = true) {s U : State} (hW : s.WarmedH U.vm) (h : va_Nw w s) : va_Nw w U := by
  cases w <;> first | (exact va_Nw.warmF hW h) | (exact va_Nw.warmM hW h) | (cases hw)
theorem gh_Nw_same {w : Cond} (hw : gh_isN w = true) {s U : State} (e : s.vm = U.vm) (h : va_Nw w s) : va_Nw w U := by
  cases w <;> first | (exact va_Nw.same rfl e h) | (cases hw)
theorem gh_Ok_warm {wd : gh_Wd} {s U : State} (hW : s.WarmedH U.vm) (hq : ∀ q : Nat, q < s.heap.size → ¬ gh_A wd q → U.heap[q]? = s.heap[q]?) (h : gh_Ok wd s) : gh_Ok wd U := by
  obtain ⟨h1, h2, h3, h4⟩ := h
  refine ⟨va_K.moved hW.alike h1, h2, fun w hw hn => gh_Nw_warm hn hW (h3 w hw hn), fun i hi => ?_⟩
  obtain ⟨a, b⟩ := h4 i hi
  exact ⟨(a.moved hW.alike).kept hq, (b.moved hW.alike).kept hq⟩
theorem gh_W_calling {wd : gh_Wd} {M : gh_M} {U : State} (g : JFrame) (mk : MethodId) (a : Array Value) (h : gh_W wd M U) : gh_W wd M (U.calling g mk a) := by
  obtain ⟨h0, h1, h2, h3, h4⟩ := h
  refine ⟨h0, va_K.moved (u := U) (U := U.calling g mk a) (Vm.Alike.refl U.vm) h1, h2, fun w hw hn => gh_Nw_same (s := U) (U := U.calling g mk a) hn rfl (h3 w hw hn), fun i hi => ?_⟩
  obtain ⟨z, t⟩ := h4 i hi
  exact ⟨va_Z.moved (u := U) (U := U.calling g mk a) (Vm.Alike.refl U.vm) z, va_T.moved (u := U) (U := U.calling g mk a) (Vm.Alike.refl U.vm) t⟩
theorem gh_blind {wd : gh_Wd} {as : List gh_V} {M : gh_M} : FrameBlind (gh_Pc wd as M) := fun a _ g mk h => ⟨h.1, gh_W_calling g mk a h.2⟩
theorem gh_pre {wd : gh_Wd} {s U : State} {M : gh_M} {H : Heap} {locs : List Loc} (hOk : gh_Ok wd s) (hP : va_P wd.1 gh_cls (gh_ws wd M) H) (hS : va_S (gh_A wd) s.heap H locs) (hU : U.heap = H) (hW : s.WarmedH U.vm) : gh_W wd M U :=
  ⟨by rw [hU]; exact hP, gh_Ok_warm hW (fun q h1 h2 => by rw [hU]; exact hS.2.1 q h1 h2) hOk⟩
-- THE END OF A METHOD
def gh_Qi (Q : Int32 → gh_M → Prop) : Option gh_V → gh_M → Prop := fun r M => ∃ v, r = some (vI v) ∧ Q v M
def gh_Ql (Q : Int64 → gh_M → Prop) : Option gh_V → gh_M → Prop := fun r M => ∃ v, r = some (vL v) ∧ Q v M
def gh_Qv (Q : gh_M → Prop) : Option gh_V → gh_M → Prop := fun r M => r = none ∧ Q M
def gh_Qr (k t : Nat) (Q : gh_M → Prop) : Option gh_V → gh_M → Prop := fun r M => r = some (vR k t) ∧ Q M
section GE
variable {mi : gh_MI} {d : Nat} {wd : gh_Wd} {x : gh_X} {M : gh_M} {pc pc' : Nat} {L : List (Option gh_V)} {Qv : Option gh_V → gh_M → Prop}
theorem gh_iret {Q : Int32 → gh_M → Prop} {a : Int32} (hd : gh_at mi pc .ireturn 1 pc') (hE : gh_E wd (gh_Qi Q) x) (hr : mi.2.2.2.2 = some .int) (hq : Q a M) : gh_J mi d wd x M pc L [vI a] := by
  obtain ⟨p, l, e, R, s, m, args, below, meth, c, cells, slots, Qf⟩ := x
  obtain ⟨hd, rfl⟩ := hd
  obtain ⟨rfl, rfl, rfl⟩ := hE
  intro hC H locs ls hP hS hL
  have hlocks := hC.2.2.2.2.2.2.1
  exact W.iret hC.1 hC.2.1 (hC.2.2.2.2.2.2.2.1.trans hr) (fun t ht hW => ⟨⟨some (vI a), M, rfl, ⟨a, rfl, hq⟩, gh_pre hC.2.2.2.2.2.1 hP hS ht hW⟩, hS.F ht⟩) hS.2.2 hd
theorem gh_zret {Q : Int32 → gh_M → Prop} {a : Int32} (hd : gh_at mi pc .ireturn 1 pc') (hE : gh_E wd (gh_Qi Q) x) (hr : mi.2.2.2.2 = some .boolean) (hz : a &&& 1 = a) (hq : Q a M) : gh_J mi d wd x M pc L [vI a] := by
  obtain ⟨p, l, e, R, s, m, args, below, meth, c, cells, slots, Qf⟩ := x
  obtain ⟨hd, rfl⟩ := hd
  obtain ⟨rfl, rfl, rfl⟩ := hE
  intro hC H locs ls hP hS hL
  have hlocks := hC.2.2.2.2.2.2.1
  exact W.zret hC.1 hC.2.1 (hC.2.2.2.2.2.2.2.1.trans hr) (by show Value.int (a &&& 1) = _; rw [hz]) (fun t ht hW => ⟨⟨some (vI a), M, rfl, ⟨a, rfl, hq⟩, gh_pre hC.2.2.2.2.2.1 hP hS ht hW⟩, hS.F ht⟩) hS.2.2 hd
theorem gh_lret {Q : Int64 → gh_M → Prop} {a : Int64} (hd : gh_at mi pc .lreturn 1 pc') (hE : gh_E wd (gh_Ql Q) x) (hr : mi.2.2.2.2 = some .long) (hq : Q a M) : gh_J mi d wd x M pc L [vL a] := by
  obtain ⟨p, l, e, R, s, m, args, below, meth, c, cells, slots, Qf⟩ := x
  obtain ⟨hd, rfl⟩ := hd
  obtain ⟨rfl, rfl, rfl⟩ := hE
  intro hC H locs ls hP hS hL
  have hlocks := hC.2.2.2.2.2.2.1
  exact W.lret hC.1 hC.2.1 (hC.2.2.2.2.2.2.2.1.trans hr) (fun t ht hW => ⟨⟨some (vL a), M, rfl, ⟨a, rfl, hq⟩, gh_pre hC.2.2.2.2.2.1 hP hS ht hW⟩, hS.F ht⟩) hS.2.2 hd
theorem gh_vret {Q : gh_M → Prop} (hd : gh_at mi pc .return_ 1 pc') (hE : gh_E wd (gh_Qv Q) x) (hr : mi.2.2.2.2 = none) (hq : Q M) : gh_J mi d wd x M pc L [] := by
  obtain ⟨p, l, e, R, s, m, args, below, meth, c, cells, slots, Qf⟩ := x
  obtain ⟨hd, rfl⟩ := hd
  obtain ⟨rfl, rfl, rfl⟩ := hE
  intro hC H locs ls hP hS hL
  have hlocks := hC.2.2.2.2.2.2.1
  exact W.vret hC.1 hC.2.1 (hC.2.2.2.2.2.2.2.1.trans hr) (fun t ht hW => ⟨⟨none, M, rfl, ⟨rfl, hq⟩, gh_pre hC.2.2.2.2.2.1 hP hS ht hW⟩, hS.F ht⟩) hS.2.2 hd
theorem gh_aret {Q : gh_M → Prop} {k t : Nat} {C : String} (hd : gh_at mi pc .areturn 1 pc') (hE : gh_E wd (gh_Qr k t Q) x) (hr : mi.2.2.2.2 = some (.object C)) (hq : Q M) : gh_J mi d wd x M pc L [vR k t] := by
  obtain ⟨p, l, e, R, s, m, args, below, meth, c, cells, slots, Qf⟩ := x
  obtain ⟨hd, rfl⟩ := hd
  obtain ⟨rfl, rfl, rfl⟩ := hE
  intro hC H locs ls hP hS hL
  have hlocks := hC.2.2.2.2.2.2.1
  exact W.aret hC.1 hC.2.1 (hC.2.2.2.2.2.2.2.1.trans hr) (Or.inl ⟨C, rfl⟩) (Or.inr ⟨wd.2.1 k t, rfl⟩) (fun t' ht hW => ⟨⟨some (vR k t), M, rfl, ⟨rfl, hq⟩, gh_pre hC.2.2.2.2.2.1 hP hS ht hW⟩, hS.F ht⟩) hS.2.2 hd
end GE
-- THE BEGINNING OF A METHOD
def gh_ent : List gh_V → List (Option gh_V)
  | [] => []
  | .inl a :: r => some (.inl a) :: gh_ent r
  | .inr (.inl a) :: r => some (.inr (.inl a)) :: none :: gh_ent r
  | .inr (.inr a) :: r => some (.inr (.inr a)) :: gh_ent r
theorem gh_ent_len (wd : gh_Wd) : ∀ as : List gh_V, (lg_sl (as.map (gh_tv wd))).length = (gh_ent as).length
  | [] => rfl
  | .inl a :: r => by
    have h := gh_ent_len wd r
    simp only [List.map_cons, gh_tv, lg_sl, gh_ent, List.flatMap_cons, List.length_append, Value.category] at h ⊢
    simp [h, Nat.add_comm]
  | .inr (.inl a) :: r => by
    have h := gh_ent_len wd r
    simp only [List.map_cons, gh_tv, lg_sl, gh_ent, List.flatMap_cons, List.length_append, Value.category] at h ⊢
    simp [h, Nat.add_comm]; omega
  | .inr (.inr a) :: r => by
    have h := gh_ent_len wd r
    simp only [List.map_cons, gh_tv, lg_sl, gh_ent, List.flatMap_cons, List.length_append, Value.category] at h ⊢
    simp [h, Nat.add_comm]
theorem gh_ent_at (wd : gh_Wd) (n : Nat) : ∀ (as : List gh_V) (j i : Nat) (v : gh_V), (gh_ent as ++ List.replicate n none)[i]? = some (some v) → (j + i, gh_tv wd v) ∈ lv_args j (as.map (gh_tv wd))
  | [], j, i, v, h => by
    rw [show gh_ent [] = [] from rfl, List.nil_append] at h
    have h1 := List.mem_of_getElem? h
    rw [List.mem_replicate] at h1
    cases h1.2
  | .inl a :: r, j, 0, v, h => by
    have h1 : (some (Sum.inl a) : Option gh_V) = some v := Option.some.inj h
    cases h1
    exact List.mem_cons_self
  | .inl a :: r, j, i + 1, v, h => by
    have h1 := gh_ent_at wd n r (j + 1) i v h
    rw [show j + (i + 1) = j + 1 + i by omega]
    exact List.mem_cons_of_mem _ h1
  | .inr (.inr a) :: r, j, 0, v, h => by
    have h1 : (some (Sum.inr (Sum.inr a)) : Option gh_V) = some v := Option.some.inj h
    cases h1
    exact List.mem_cons_self
  | .inr (.inr a) :: r, j, i + 1, v, h => by
    have h1 := gh_ent_at wd n r (j + 1) i v h
    rw [show j + (i + 1) = j + 1 + i by omega]
    exact List.mem_cons_of_mem _ h1
  | .inr (.inl a) :: r, j, 0, v, h => by
    have h1 : (some (Sum.inr (Sum.inl a)) : Option gh_V) = some v := Option.some.inj h
    cases h1
    exact List.mem_cons_self
  | .inr (.inl a) :: r, j, 1, v, h => by
    have h1 : (none : Option gh_V) = some v := Option.some.inj h
    cases h1
  | .inr (.inl a) :: r, j, i + 2, v, h => by
    have h1 := gh_ent_at wd n r (j + 2) i v h
    rw [show j + (i + 2) = j + 2 + i by omega]
    exact List.mem_cons_of_mem _ h1
theorem gh_of {mi : gh_MI} {d : Nat} {as : List gh_V} {M : gh_M} {Qv : Option gh_V → gh_M → Prop} (hy : plainName mi.2.1.cls = true) (hown : mi.1 = mi.2.1.cls) (n : Nat) (hn : (gh_ent as).length + n = mi.2.2.2.1) {L0 : List (Option gh_V)} (hL0 : gh_ent as ++ List.replicate n none = L0)
    (h : ∀ (wd : gh_Wd) (x : gh_X), gh_E wd Qv x → gh_J mi d wd x M 0 L0 []) : gh_Calls d mi as M Qv := by
  intro l wd
  refine Met.ofW (cc := mi.2.2.1) (maxL := mi.2.2.2.1) (ret := mi.2.2.2.2) hy rfl ?_
  intro p e s m args below meth c s₁ B hml hv
  obtain ⟨rfl, hP, hOk⟩ := hv
  have hts := atoms_spec (ws := gh_wsm mi) B.pre
  have hown' : s.vm.findClass mi.1 = some m.cls := by rw [hown]; exact findClass_of_methodNamed B.named
  have hl := lv_entry (as.map (gh_tv wd)) (n := mi.2.2.2.1) (by rw [gh_ent_len]; omega)
  rw [lg_entry_eq]
  have hL : gh_L wd ((lg_sl (as.map (gh_tv wd)) ++ List.replicate (mi.2.2.2.1 - (lg_sl (as.map (gh_tv wd))).length) Slot.unset).toArray) mi.2.2.2.1 L0 := by
    refine ⟨hl.1, hl.2.1, fun q hq => ?_⟩
    obtain ⟨j, y⟩ := q
    obtain ⟨w, hw, rfl⟩ := gh_pr_mem.mp hq
    rw [← hL0] at hw
    have h1 := gh_ent_at wd n as 0 j w hw
    rw [Nat.zero_add] at h1
    exact hl.2.2 _ h1
  exact h wd (p, l, e, (headSpec (gh_wsm mi) (gh_rm d)).room, s, m, (as.map (gh_tv wd)).toArray, below, meth, c, 0, 0, MQ below (gh_Qc wd Qv) (as.map (gh_tv wd)).toArray s 0 0 (gh_A wd)) ⟨rfl, rfl, rfl⟩
    ⟨B.exec, B.bytes, hml, hown', fun w hw => hts w (List.mem_cons_of_mem _ hw), hOk, B.notSynchronized, B.returns, Nat.le_refl _, Nat.le_refl _, Nat.zero_le _, Nat.zero_le _⟩ s.heap [] _ hP va_S.rf hL
-- A CALL
def gh_cat : gh_V → Nat
  | .inr (.inl _) => 2
  | _ => 1
theorem gh_cat_tv (wd : gh_Wd) : ∀ S : List gh_V, ((S.map (gh_tv wd)).map fun v => v.category).sum = (S.map gh_cat).sum
  | [] => rfl
  | .inl a :: r => by simp [gh_tv, gh_cat, Value.category, ← gh_cat_tv wd r]
  | .inr (.inl a) :: r => by simp [gh_tv, gh_cat, Value.category, ← gh_cat_tv wd r]
  | .inr (.inr a) :: r => by simp [gh_tv, gh_cat, Value.category, ← gh_cat_tv wd r]
/-- what the tables say of a method that is called: on an object, or static -/
def gh_mok (mi : gh_MI) (n : Nat) : Prop := Cond.initialized mi.2.1.cls ∈ gh_G ∧ Cond.code mi.2.1 mi.2.2.1 mi.2.2.2.1 mi.2.2.2.2 ∈ gh_G ∧ (mi.2.1.cls ≠ "java/lang/invoke/MethodHandle" ∧ mi.2.1.cls ≠ "java/lang/invoke/VarHandle" ∧ (parseMethodDescriptor mi.2.1.desc).map (fun d => d.parameters.length) = some n) ∧ mi.2.2.2.1 ≤ 40
def gh_okV (mi : gh_MI) (n : Nat) : Prop := gh_mok mi n ∧ Cond.instanceMethod mi.2.1 ∈ gh_G ∧ Cond.selects mi.2.1.cls mi.2.1 mi.2.1 ∈ gh_G
def gh_okS (mi : gh_MI) (n : Nat) : Prop := gh_mok mi n ∧ Cond.static mi.2.1 ∈ gh_G
def gh_ML (own : String) (idx : Nat) (y : MethodName) : Prop := Cond.methodLink own idx y ∈ gh_G ∨ ∃ host, Cond.methodLinkNest own idx y host ∈ lw_tbl
theorem gh_good {mi : gh_MI} {n : Nat} (h : gh_mok mi n) : GoodIn gh_G (gh_wsm mi) := by
  intro w hw
  rcases List.mem_cons.mp hw with rfl | hw
  · exact ⟨h.2.1, good_of_word (List.mem_filter.mp h.2.1).2⟩
  · exact ⟨hw, good_of_word (List.mem_filter.mp hw).2⟩
theorem gh_after {p : Program} {l : Launch} {e : Env} {R : Room} {s : State} {m : MethodId} {args : Array Value} {below : List Frame} {meth : Method} {c : Code} {H : Heap} {locs : List Loc} {cells slots : Nat} {Q : State → Prop} {wd : gh_Wd} {Qv : Option gh_V → gh_M → Prop} {a : Array Value} {pc : Nat} {ls : Array Slot} {st0 rest : List Value}
    (hr : va_Run p l e R s m args below meth c H locs cells slots 0 0 (F0 m pc ls st0) rest (gh_Qc wd Qv a) (gh_A wd)) (hS : va_S (gh_A wd) s.heap H locs)
    (kk : ∀ (r : Option gh_V) (M' : gh_M) (H1 : Heap) (locs1 : List Loc), Qv r M' → va_P wd.1 gh_cls (gh_ws wd M') H1 → va_S (gh_A wd) s.heap H1 locs1 → W p l e R s m args below meth c H1 locs1 cells slots Q (F0 m (pc + 3) ls ((r.map (gh_tv wd)).toList ++ rest))) :
    W p l e R s m args below meth c H locs cells slots Q (F0 m pc ls st0) := by
  intro T hT X
  obtain ⟨v, st₀, t, T', L, h0, X', hL, e1, e2, ⟨⟨r, M', hv, hq, hW⟩, hz, hk⟩, st⟩ := hr T hT X
  have hv' : v = r.map (gh_tv wd) := by cases hv; rfl
  subst hv'
  rw [h0] at hz hk
  obtain ⟨t2, a1, b1⟩ := kk r M' T'.heap (locs ++ L) hq (by rw [e1]; exact hW.1)
    ⟨Nat.le_trans hS.1 (by rw [e1]; exact hz), fun q h1 h2 => by rw [e1, hk q (Nat.lt_of_lt_of_le h1 hS.1) h2]; exact hS.2.1 q h1 h2, fun q hq => by
      rcases List.mem_append.mp hq with h | h
      · exact hS.2.2 q h
      · exact hL q h⟩ T' rfl X'
  exact ⟨t2, st t2 a1, b1⟩
section GC
variable {mi : gh_MI} {d : Nat} {wd : gh_Wd} {x : gh_X} {M : gh_M} {pc pc' : Nat} {L : List (Option gh_V)}
theorem gh_callV {mi' : gh_MI} {d' n idx k t : Nat} {as st S : List gh_V} {Qv : Option gh_V → gh_M → Prop} (hd : gh_at mi pc (.invokevirtual idx) 3 pc') (hl : gh_ML mi.1 idx mi'.2.1) (ho : gh_okV mi' n) (hlen : as.length = n) (hst : st = as.reverse ++ vR k t :: S) (hdd : d' + 1 ≤ d) (hwS : (S.map gh_cat).sum ≤ 8)
    (hk : k < 45) (ht : t < gh_cnt k) (har : gh_ar k = none) (hcl : (gh_cls[gh_ci k]?).map (fun r => r.1) = some mi'.2.1.cls) (hc : gh_Calls d' mi' (vR k t :: as) M Qv)
    (kk : ∀ r M', Qv r M' → gh_J mi d wd x M' pc' L (r.toList ++ S)) : gh_J mi d wd x M pc L st := by
  obtain ⟨p, l, e, R, s, m, args, below, meth, c, cells, slots, Qf⟩ := x
  obtain ⟨hd, rfl⟩ := hd
  subst hst
  intro hC H locs ls hP hS hL
  obtain ⟨ho, hin, hsel⟩ := ho
  have hts := hC.2.2.2.2.1
  obtain ⟨q0, hq⟩ := gh_mem hk ht
  have he := gh_ws_at wd M hq
  rw [gh_ce_o wd M t har] at he
  obtain ⟨r0, hr0, hr1⟩ : ∃ r0, gh_cls[gh_ci k]? = some r0 ∧ r0.1 = mi'.2.1.cls := by
    cases h9 : gh_cls[gh_ci k]? with
    | none => rw [h9] at hcl; cases hcl
    | some r0 => rw [h9] at hcl; exact ⟨r0, rfl, Option.some.inj hcl⟩
  have hrecv := va_recv hC.2.2.2.2.2.1.1 hP hr0 he
  rw [hr1] at hrecv
  have hpre : PreV s H mi'.2.1.cls (wd.2.1 k t) (gh_Pc wd (vR k t :: as) M) (as.map (gh_tv wd)) := ⟨gh_blind, hrecv, fun U hU hW => ⟨rfl, gh_pre hC.2.2.2.2.2.1 hP hS hU hW⟩⟩
  have hroom : (gh_rm d').frames + 1 ≤ R.frames ∧ 8 + (mi'.2.2.2.1 + 11) + (gh_rm d').locals ≤ R.locals := by
    have h1 := hC.2.2.2.2.2.2.2.2.1
    have h2 := hC.2.2.2.2.2.2.2.2.2.1
    have h3 := ho.2.2.2
    show d' + 1 ≤ R.frames ∧ 8 + (mi'.2.2.2.1 + 11) + 64 * d' ≤ R.locals
    omega
  have hf : cells + 0 ≤ R.cells ∧ slots + 0 ≤ R.slots := ⟨hC.2.2.2.2.2.2.2.2.2.2.1, hC.2.2.2.2.2.2.2.2.2.2.2⟩
  have hstk : (((as.reverse ++ vR k t :: S).map (gh_tv wd))) = (as.map (gh_tv wd)).reverse ++ .ref (wd.2.1 k t) :: S.map (gh_tv wd) := by
    rw [List.map_append, List.map_reverse]
    rfl
  have hwS' : 2 * (F0 m pc ls (((as.reverse ++ vR k t :: S).map (gh_tv wd)))).monitorRoom + ((S.map (gh_tv wd)).map fun v => v.category).sum ≤ 8 := lv_room (by rw [gh_cat_tv]; exact hwS)
  have fin : ∀ (r : Option gh_V) (M' : gh_M) (H1 : Heap) (locs1 : List Loc), Qv r M' → va_P wd.1 gh_cls (gh_ws wd M') H1 → va_S (gh_A wd) s.heap H1 locs1 → W p l e R s m args below meth c H1 locs1 cells slots Qf (F0 m (pc + 3) ls ((r.map (gh_tv wd)).toList ++ S.map (gh_tv wd))) := fun r M' H1 locs1 hq hP1 hS1 => by
    have h := kk r M' hq hC H1 locs1 ls hP1 hS1 hL
    cases r with
    | none => exact h
    | some v => exact h
  rcases hl with hl | ⟨host, hl⟩
  · exact gh_after (va_runV (As := as.map (gh_tv wd)) (rest := S.map (gh_tv wd)) (n := n) ⟨hC.1, hC.2.1, hC.2.2.1, hC.2.2.2.1, hts⟩ (hc l wd) ⟨callB_of n hts (gh_good ho) rfl rfl rfl (hts _ ho.1) (hts _ hl) ho.2.2.1 hroom, hts _ hin, hts _ hsel⟩ hpre rfl (by rw [List.length_map]; exact hlen) hL.1 hstk hwS' hd hf) hS fin
  · exact gh_after (va_runVN (As := as.map (gh_tv wd)) (rest := S.map (gh_tv wd)) (n := n) ⟨hC.1, hC.2.1, hC.2.2.1, hC.2.2.2.1, hts⟩ (hc l wd) ⟨va_cnB n hts (gh_good ho) rfl rfl rfl (hC.2.2.2.2.2.1.2.2.1 _ hl rfl) (hts _ ho.1) ho.2.2.1 hroom, hts _ hin, hts _ hsel⟩ hpre rfl (by rw [List.length_map]; exact hlen) hL.1 hstk hwS' hd hf) hS fin
theorem gh_callS {mi' : gh_MI} {d' n idx : Nat} {as st S : List gh_V} {Qv : Option gh_V → gh_M → Prop} (hd : gh_at mi pc (.invokestatic idx) 3 pc') (hl : gh_ML mi.1 idx mi'.2.1) (ho : gh_okS mi' n) (hlen : as.length = n) (hst : st = as.reverse ++ S) (hdd : d' + 1 ≤ d) (hwS : (S.map gh_cat).sum ≤ 8)
    (hc : gh_Calls d' mi' as M Qv) (kk : ∀ r M', Qv r M' → gh_J mi d wd x M' pc' L (r.toList ++ S)) : gh_J mi d wd x M pc L st := by
  obtain ⟨p, l, e, R, s, m, args, below, meth, c, cells, slots, Qf⟩ := x
  obtain ⟨hd, rfl⟩ := hd
  subst hst
  intro hC H locs ls hP hS hL
  obtain ⟨ho, hstt⟩ := ho
  have hts := hC.2.2.2.2.1
  have hpre : PreS s H (gh_Pc wd as M) (as.map (gh_tv wd)) := ⟨gh_blind, fun U hU hW => ⟨rfl, gh_pre hC.2.2.2.2.2.1 hP hS hU hW⟩⟩
  have hroom : (gh_rm d').frames + 1 ≤ R.frames ∧ 8 + (mi'.2.2.2.1 + 11) + (gh_rm d').locals ≤ R.locals := by
    have h1 := hC.2.2.2.2.2.2.2.2.1
    have h2 := hC.2.2.2.2.2.2.2.2.2.1
    have h3 := ho.2.2.2
    show d' + 1 ≤ R.frames ∧ 8 + (mi'.2.2.2.1 + 11) + 64 * d' ≤ R.locals
    omega
  have hf : cells + 0 ≤ R.cells ∧ slots + 0 ≤ R.slots := ⟨hC.2.2.2.2.2.2.2.2.2.2.1, hC.2.2.2.2.2.2.2.2.2.2.2⟩
  have hstk : (((as.reverse ++ S).map (gh_tv wd))) = (as.map (gh_tv wd)).reverse ++ S.map (gh_tv wd) := by
    rw [List.map_append, List.map_reverse]
  have hwS' : 2 * (F0 m pc ls (((as.reverse ++ S).map (gh_tv wd)))).monitorRoom + ((S.map (gh_tv wd)).map fun v => v.category).sum ≤ 8 := lv_room (by rw [gh_cat_tv]; exact hwS)
  have fin : ∀ (r : Option gh_V) (M' : gh_M) (H1 : Heap) (locs1 : List Loc), Qv r M' → va_P wd.1 gh_cls (gh_ws wd M') H1 → va_S (gh_A wd) s.heap H1 locs1 → W p l e R s m args below meth c H1 locs1 cells slots Qf (F0 m (pc + 3) ls ((r.map (gh_tv wd)).toList ++ S.map (gh_tv wd))) := fun r M' H1 locs1 hq hP1 hS1 => by
    have h := kk r M' hq hC H1 locs1 ls hP1 hS1 hL
    cases r with
    | none => exact h
    | some v => exact h
  rcases hl with hl | ⟨host, hl⟩
  · exact gh_after (va_runS (As := as.map (gh_tv wd)) (rest := S.map (gh_tv wd)) (n := n) ⟨hC.1, hC.2.1, hC.2.2.1, hC.2.2.2.1, hts⟩ (hc l wd) ⟨callB_of n hts (gh_good ho) rfl rfl rfl (hts _ ho.1) (hts _ hl) ho.2.2.1 hroom, hts _ hstt⟩ hpre rfl (by rw [List.length_map]; exact hlen) hL.1 hstk hwS' hd hf) hS fin
  · exact gh_after (va_runSN (As := as.map (gh_tv wd)) (rest := S.map (gh_tv wd)) (n := n) ⟨hC.1, hC.2.1, hC.2.2.1, hC.2.2.2.1, hts⟩ (hc l wd) ⟨va_cnB n hts (gh_good ho) rfl rfl rfl (hC.2.2.2.2.2.1.2.2.1 _ hl rfl) (hts _ ho.1) ho.2.2.1 hroom, hts _ hstt, trivial⟩ hpre rfl (by rw [List.length_map]; exact hlen) hL.1 hstk hwS' hd hf) hS fin
theorem gh_callVi {mi' : gh_MI} {d' n idx k t : Nat} {as st S : List gh_V} {Q : Int32 → gh_M → Prop} (hd : gh_at mi pc (.invokevirtual idx) 3 pc') (hl : gh_ML mi.1 idx mi'.2.1) (ho : gh_okV mi' n) (hlen : as.length = n) (hst : st = as.reverse ++ vR k t :: S) (hdd : d' + 1 ≤ d) (hwS : (S.map gh_cat).sum ≤ 8)
    (hk : k < 45) (ht : t < gh_cnt k) (har : gh_ar k = none) (hcl : (gh_cls[gh_ci k]?).map (fun r => r.1) = some mi'.2.1.cls) (hc : gh_Calls d' mi' (vR k t :: as) M (gh_Qi Q))
    (kk : ∀ r M', Q r M' → gh_J mi d wd x M' pc' L (vI r :: S)) : gh_J mi d wd x M pc L st :=
  gh_callV hd hl ho hlen hst hdd hwS hk ht har hcl hc (fun r M' h => by obtain ⟨v, rfl, hq⟩ := h; exact kk v M' hq)
theorem gh_callVl {mi' : gh_MI} {d' n idx k t : Nat} {as st S : List gh_V} {Q : Int64 → gh_M → Prop} (hd : gh_at mi pc (.invokevirtual idx) 3 pc') (hl : gh_ML mi.1 idx mi'.2.1) (ho : gh_okV mi' n) (hlen : as.length = n) (hst : st = as.reverse ++ vR k t :: S) (hdd : d' + 1 ≤ d) (hwS : (S.map gh_cat).sum ≤ 8)
    (hk : k < 45) (ht : t < gh_cnt k) (har : gh_ar k = none) (hcl : (gh_cls[gh_ci k]?).map (fun r => r.1) = some mi'.2.1.cls) (hc : gh_Calls d' mi' (vR k t :: as) M (gh_Ql Q))
    (kk : ∀ r M', Q r M' → gh_J mi d wd x M' pc' L (vL r :: S)) : gh_J mi d wd x M pc L st :=
  gh_callV hd hl ho hlen hst hdd hwS hk ht har hcl hc (fun r M' h => by obtain ⟨v, rfl, hq⟩ := h; exact kk v M' hq)
theorem gh_callVv {mi' : gh_MI} {d' n idx k t : Nat} {as st S : List gh_V} {Q : gh_M → Prop} (hd : gh_at mi pc (.invokevirtual idx) 3 pc') (hl : gh_ML mi.1 idx mi'.2.1) (ho : gh_okV mi' n) (hlen : as.length = n) (hst : st = as.reverse ++ vR k t :: S) (hdd : d' + 1 ≤ d) (hwS : (S.map gh_cat).sum ≤ 8)
    (hk : k < 45) (ht : t < gh_cnt k) (har : gh_ar k = none) (hcl : (gh_cls[gh_ci k]?).map (fun r => r.1) = some mi'.2.1.cls) (hc : gh_Calls d' mi' (vR k t :: as) M (gh_Qv Q))
    (kk : ∀ M', Q M' → gh_J mi d wd x M' pc' L S) : gh_J mi d wd x M pc L st :=
  gh_callV hd hl ho hlen hst hdd hwS hk ht har hcl hc (fun r M' h => by obtain ⟨rfl, hq⟩ := h; exact kk M' hq)
theorem gh_callVr {mi' : gh_MI} {d' n idx k t a b : Nat} {as st S : List gh_V} {Q : gh_M → Prop} (hd : gh_at mi pc (.invokevirtual idx) 3 pc') (hl : gh_ML mi.1 idx mi'.2.1) (ho : gh_okV mi' n) (hlen : as.length = n) (hst : st = as.reverse ++ vR k t :: S) (hdd : d' + 1 ≤ d) (hwS : (S.map gh_cat).sum ≤ 8)
    (hk : k < 45) (ht : t < gh_cnt k) (har : gh_ar k = none) (hcl : (gh_cls[gh_ci k]?).map (fun r => r.1) = some mi'.2.1.cls) (hc : gh_Calls d' mi' (vR k t :: as) M (gh_Qr a b Q))
    (kk : ∀ M', Q M' → gh_J mi d wd x M' pc' L (vR a b :: S)) : gh_J mi d wd x M pc L st :=
  gh_callV hd hl ho hlen hst hdd hwS hk ht har hcl hc (fun r M' h => by obtain ⟨rfl, hq⟩ := h; exact kk M' hq)
theorem gh_callSi {mi' : gh_MI} {d' n idx : Nat} {as st S : List gh_V} {Q : Int32 → gh_M → Prop} (hd : gh_at mi pc (.invokestatic idx) 3 pc') (hl : gh_ML mi.1 idx mi'.2.1) (ho : gh_okS mi' n) (hlen : as.length = n) (hst : st = as.reverse ++ S) (hdd : d' + 1 ≤ d) (hwS : (S.map gh_cat).sum ≤ 8)
    (hc : gh_Calls d' mi' as M (gh_Qi Q)) (kk : ∀ r M', Q r M' → gh_J mi d wd x M' pc' L (vI r :: S)) : gh_J mi d wd x M pc L st :=
  gh_callS hd hl ho hlen hst hdd hwS hc (fun r M' h => by obtain ⟨v, rfl, hq⟩ := h; exact kk v M' hq)
theorem gh_callSl {mi' : gh_MI} {d' n idx : Nat} {as st S : List gh_V} {Q : Int64 → gh_M → Prop} (hd : gh_at mi pc (.invokestatic idx) 3 pc') (hl : gh_ML mi.1 idx mi'.2.1) (ho : gh_okS mi' n) (hlen : as.length = n) (hst : st = as.reverse ++ S) (hdd : d' + 1 ≤ d) (hwS : (S.map gh_cat).sum ≤ 8)
    (hc : gh_Calls d' mi' as M (gh_Ql Q)) (kk : ∀ r M', Q r M' → gh_J mi d wd x M' pc' L (vL r :: S)) : gh_J mi d wd x M pc L st :=
  gh_callS hd hl ho hlen hst hdd hwS hc (fun r M' h => by obtain ⟨v, rfl, hq⟩ := h; exact kk v M' hq)
theorem gh_callSv {mi' : gh_MI} {d' n idx : Nat} {as st S : List gh_V} {Q : gh_M → Prop} (hd : gh_at mi pc (.invokestatic idx) 3 pc') (hl : gh_ML mi.1 idx mi'.2.1) (ho : gh_okS mi' n) (hlen : as.length = n) (hst : st = as.reverse ++ S) (hdd : d' + 1 ≤ d) (hwS : (S.map gh_cat).sum ≤ 8)
    (hc : gh_Calls d' mi' as M (gh_Qv Q)) (kk : ∀ M', Q M' → gh_J mi d wd x M' pc' L S) : gh_J mi d wd x M pc L st :=
  gh_callS hd hl ho hlen hst hdd hwS hc (fun r M' h => by obtain ⟨rfl, hq⟩ := h; exact kk M' hq)
-- the library's own
theorem gh_min {idx : Nat} {a b : Int32} {S : List gh_V} (hd : gh_at mi pc (.invokestatic idx) 3 pc') (hl : Cond.methodLink mi.1 idx Lib.Math.min.name ∈ gh_G) (h1 : Cond.static Lib.Math.min.name ∈ gh_G) (h2 : Cond.initialized "java/lang/Math" ∈ gh_G) (h3 : Cond.code Lib.Math.min.name Lib.Math.min.code 2 (some .int) ∈ gh_G) (hdd : 1 ≤ d) (hwS : (S.map gh_cat).sum ≤ 8)
    (k : gh_J mi d wd x M pc' L (vI (if b < a then b else a) :: S)) : gh_J mi d wd x M pc L (vI b :: vI a :: S) := by
  obtain ⟨p, l, e, R, s, m, args, below, meth, c, cells, slots, Qf⟩ := x
  obtain ⟨hd, rfl⟩ := hd
  intro hC H locs ls hP hS hL
  have hts := hC.2.2.2.2.1
  have g1 := hC.2.2.2.2.2.2.2.2.1
  have g2 := hC.2.2.2.2.2.2.2.2.2.1
  exact va_mmin hC.1 hC.2.1 (hC.2.2.1.trans hL.1.symm) hC.2.2.2.1 (hts _ hl) (hts _ h1) (hts _ h2) (hts _ h3) (by omega) (by rw [gh_cat_tv]; omega) hC.2.2.2.2.2.2.2.2.2.2.1 hC.2.2.2.2.2.2.2.2.2.2.2 hd (k hC H locs ls hP hS hL)
theorem gh_max {idx : Nat} {a b : Int32} {S : List gh_V} (hd : gh_at mi pc (.invokestatic idx) 3 pc') (hl : Cond.methodLink mi.1 idx Lib.Math.max.name ∈ gh_G) (h1 : Cond.static Lib.Math.max.name ∈ gh_G) (h2 : Cond.initialized "java/lang/Math" ∈ gh_G) (h3 : Cond.code Lib.Math.max.name Lib.Math.max.code 2 (some .int) ∈ gh_G) (hdd : 1 ≤ d) (hwS : (S.map gh_cat).sum ≤ 8)
    (k : gh_J mi d wd x M pc' L (vI (if a < b then b else a) :: S)) : gh_J mi d wd x M pc L (vI b :: vI a :: S) := by
  obtain ⟨p, l, e, R, s, m, args, below, meth, c, cells, slots, Qf⟩ := x
  obtain ⟨hd, rfl⟩ := hd
  intro hC H locs ls hP hS hL
  have hts := hC.2.2.2.2.1
  have g1 := hC.2.2.2.2.2.2.2.2.1
  have g2 := hC.2.2.2.2.2.2.2.2.2.1
  exact va_mmax hC.1 hC.2.1 (hC.2.2.1.trans hL.1.symm) hC.2.2.2.1 (hts _ hl) (hts _ h1) (hts _ h2) (hts _ h3) (by omega) (by rw [gh_cat_tv]; omega) hC.2.2.2.2.2.2.2.2.2.2.1 hC.2.2.2.2.2.2.2.2.2.2.2 hd (k hC H locs ls hP hS hL)
theorem gh_nfw : nativeFrameWords "java/lang/System" "arraycopy" 5 ≤ 40 := by decide +kernel
theorem gh_copy {idx ks ts kd td n0 n1 z : Nat} {sp dp n : Int32} {S : List gh_V} (hd : gh_at mi pc (.invokestatic idx) 3 pc') (hl : Cond.methodLink mi.1 idx arraycopyName ∈ gh_G) (h1 : Cond.native arraycopyName ∈ gh_G) (h2 : Cond.static arraycopyName ∈ gh_G) (h3 : Cond.initialized "java/lang/System" ∈ gh_G) (hdd : 1 ≤ d) (hwS : (S.map gh_cat).sum ≤ 8)
    (hz : z < 2) (ha0 : gh_ar ks = some (z, n0)) (ha1 : gh_ar kd = some (z, n1)) (hk0 : ks < 45) (ht0 : ts < gh_cnt ks) (hk1 : kd < 45) (ht1 : td < gh_cnt kd)
    (g1 : ¬ sp < 0) (g2 : ¬ dp < 0) (g3 : ¬ n < 0) (g4 : sp.toNatClampNeg + n.toNatClampNeg ≤ n0) (g5 : dp.toNatClampNeg + n.toNatClampNeg ≤ n1) (hfit : z = 1 → ∀ i, i < n.toNatClampNeg → M ks ts (sp.toNatClampNeg + i) = 0 ∨ M ks ts (sp.toNatClampNeg + i) = 1)
    (k : gh_J mi d wd x (gh_row M kd td (va_cpy (M ks ts) (M kd td) sp.toNatClampNeg dp.toNatClampNeg n.toNatClampNeg)) pc' L S) : gh_J mi d wd x M pc L (vI n :: vI dp :: vR kd td :: vI sp :: vR ks ts :: S) := by
  obtain ⟨p, l, e, R, s, m, args, below, meth, c, cells, slots, Qf⟩ := x
  obtain ⟨hd, rfl⟩ := hd
  intro hC H locs ls hP hS hL
  have hts := hC.2.2.2.2.1
  have r1 := hC.2.2.2.2.2.2.2.2.1
  have r2 := hC.2.2.2.2.2.2.2.2.2.1
  have r3 := gh_nfw
  obtain ⟨q0, hq0⟩ := gh_mem hk0 ht0
  obtain ⟨q1, hq1⟩ := gh_mem hk1 ht1
  have he0 := gh_ws_at wd M hq0
  have he1 := gh_ws_at wd M hq1
  have hD := gh_D_any M hC.2.2.2.2.2.1.2.1
  have hlo : ((S.map (gh_tv wd)).map fun v => v.category).sum + (nativeFrameWords "java/lang/System" "arraycopy" 5 + 11) ≤ R.locals := by rw [gh_cat_tv]; omega
  match z, hz with
  | 0, _ =>
    rw [gh_ce_i wd M ts ha0] at he0
    rw [gh_ce_i wd M td ha1] at he1
    have e1 : gh_ce wd (gh_row M kd td (va_cpy (M ks ts) (M kd td) sp.toNatClampNeg dp.toNatClampNeg n.toNatClampNeg)) kd td = .inl (wd.2.2.1 0, n1, .inl (va_cpy (M ks ts) (M kd td) sp.toNatClampNeg dp.toNatClampNeg n.toNatClampNeg)) := by rw [gh_ce_i wd _ td ha1, gh_row_self]
    have e2 := gh_set hD hq1 _ e1
    exact va_copyi hC.1 hC.2.1 (hC.2.2.1.trans hL.1.symm) hC.2.2.2.1 (hts _ hl) (hts _ h1) (hts _ h2) (hts _ h3) hC.2.2.2.2.2.1.1 hP hD hS q0 q1 0 0 he0 he1 rfl rfl rfl g1 g2 g3 g4 g5 (fun i _ => rfl) (by omega) hlo hd (fun H1 locs1 hP1 _ hS1 => k hC H1 locs1 ls (by rw [← e2]; exact hP1) hS1 hL)
  | 1, _ =>
    rw [gh_ce_z wd M ts ha0] at he0
    rw [gh_ce_z wd M td ha1] at he1
    have e1 : gh_ce wd (gh_row M kd td (va_cpy (M ks ts) (M kd td) sp.toNatClampNeg dp.toNatClampNeg n.toNatClampNeg)) kd td = .inl (wd.2.2.1 1, n1, .inl (va_cpy (M ks ts) (M kd td) sp.toNatClampNeg dp.toNatClampNeg n.toNatClampNeg)) := by rw [gh_ce_z wd _ td ha1, gh_row_self]
    have e2 := gh_set hD hq1 _ e1
    exact va_copyi hC.1 hC.2.1 (hC.2.2.1.trans hL.1.symm) hC.2.2.2.1 (hts _ hl) (hts _ h1) (hts _ h2) (hts _ h3) hC.2.2.2.2.2.1.1 hP hD hS q0 q1 1 1 he0 he1 rfl rfl rfl g1 g2 g3 g4 g5 (fun i hi => by rcases hfit rfl i hi with h | h <;> (rw [h]; rfl)) (by omega) hlo hd (fun H1 locs1 hP1 _ hS1 => k hC H1 locs1 ls (by rw [← e2]; exact hP1) hS1 hL)
end GC
