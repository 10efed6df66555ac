-- THE ABSTRACT WORLD: objects have names (kind, number); what changes is numbers alone: a memory gh_M
abbrev gh_V : Type := Int32 ⊕ (Int64 ⊕ (Nat × Nat))
abbrev vI (x : Int32) : gh_V := Sum.inl x
abbrev vL (x : Int64) : gh_V := Sum.inr (Sum.inl x)
abbrev vR (k t : Nat) : gh_V := Sum.inr (Sum.inr (k, t))
abbrev gh_M : Type := Nat → Nat → Nat → Int32
/-- the numbers of one object become f -/
def gh_row (M : gh_M) (k t : Nat) (f : Nat → Int32) : gh_M := fun a b => if a = k ∧ b = t then f else M a b
/-- one number becomes v -/
def gh_st (M : gh_M) (k t j : Nat) (v : Int32) : gh_M := gh_row M k t (upd (M k t) j v)
/-- class numbers and slots, addresses, array classes (int, boolean, Row, Train), the least address -/
abbrev gh_Wd : Type := va_G × (Nat → Nat → Nat) × (Nat → ClassId) × Nat
def gh_A (wd : gh_Wd) : Nat → Prop := fun q => wd.2.2.2 ≤ q
def gh_tv (wd : gh_Wd) : gh_V → Value
  | .inl x => .int x
  | .inr (.inl y) => .long y
  | .inr (.inr q) => .ref (wd.2.1 q.1 q.2)
-- THE SHAPE
def gh_cls : List vw_C := [(RX0, TX0, 3), (RX1, TX1, 2), (RX2, TX2, 9), (RX3, TX3, 4), (RX4, TX4, 4), (RX5, TX5, 19), (RX6, TX6, 10), (RX7, TX7, 22)]
def gh_ty (ci k : Nat) : FieldType := match ci with
  | 0 => tyX0 k | 1 => tyX1 k | 2 => tyX2 k | 3 => tyX3 k | 4 => tyX4 k | 5 => tyX5 k | 6 => tyX6 k | _ => tyX7 k
/-- how many of a kind there are -/
def gh_cnt (k : Nat) : Nat := match k with
  | 2 => 8 | 3 => 8
  | 6 => 29 | 7 => 29 | 8 => 29 | 9 => 29 | 10 => 29 | 11 => 29 | 12 => 29 | 13 => 29 | 14 => 29 | 15 => 29 | 16 => 29 | 17 => 29 | 18 => 29 | 19 => 29 | 20 => 29
  | _ => 1
/-- arrays: of what (0 int, 1 boolean, 2 Row, 3 Train), how long -/
def gh_ar (k : Nat) : Option (Nat × Nat) := match k with
  | 1 => some (2, 8) | 3 => some (0, 40) | 5 => some (0, 100)
  | 7 => some (0, 5) | 8 => some (0, 5) | 9 => some (0, 5) | 10 => some (1, 5) | 11 => some (0, 5)
  | 12 => some (0, 6) | 13 => some (0, 6) | 14 => some (0, 6) | 15 => some (0, 6) | 16 => some (0, 6) | 17 => some (0, 6) | 18 => some (1, 6) | 19 => some (0, 6) | 20 => some (0, 12)
  | 22 => some (3, 24) | 23 => some (3, 2)
  | 25 => some (0, 12) | 26 => some (0, 6) | 27 => some (0, 6) | 28 => some (0, 6) | 29 => some (0, 32) | 31 => some (0, 16)
  | 33 => some (0, 1988) | 34 => some (0, 6) | 35 => some (0, 6) | 36 => some (0, 6) | 37 => some (0, 100) | 38 => some (0, 320) | 39 => some (0, 8) | 40 => some (0, 8) | 41 => some (0, 16) | 42 => some (0, 6) | 43 => some (0, 32) | 44 => some (0, 32)
  | _ => none
/-- objects: the number of the class -/
def gh_ci (k : Nat) : Nat := match k with
  | 0 => 6 | 2 => 3 | 4 => 4 | 6 => 5 | 21 => 0 | 24 => 2 | 30 => 1 | _ => 7
/-- objects: the fields, numbers (none) or other objects -/
def gh_fl (k t : Nat) : List (Option (Nat × Nat)) := match k with
  | 0 => [some (1, 0), some (4, 0), some (6, 0), some (6, 1), some (21, 0), some (23, 0), some (24, 0), some (30, 0), none, none]
  | 2 => [none, none, none, some (3, t)]
  | 4 => [some (5, 0), none, none, none]
  | 6 => [none, none, none, none, none, some (7, t), some (8, t), some (9, t), some (10, t), some (11, t), some (12, t), some (13, t), some (14, t), some (15, t), some (16, t), some (17, t), some (18, t), some (19, t), some (20, t)]
  | 21 => [some (22, 0), none, none]
  | 24 => [some (6, 28), some (25, 0), none, some (26, 0), some (27, 0), some (28, 0), none, none, some (29, 0)]
  | 30 => [some (31, 0), none]
  | _ => [some (33, 0), none, none, some (34, 0), some (35, 0), none, some (36, 0), some (37, 0), none, none, some (38, 0), some (39, 0), some (40, 0), none, some (41, 0), none, none, none, none, some (42, 0), some (43, 0), some (44, 0)]
/-- arrays of objects: what stands at a place -/
def gh_el (k i : Nat) : Nat × Nat := match k with
  | 1 => (2, i) | 22 => (6, 2 + i) | _ => (6, 26 + i)
def gh_fv (wd : gh_Wd) (M : gh_M) (k t i : Nat) : Value := match (gh_fl k t)[i]? with
  | some (some q) => .ref (wd.2.1 q.1 q.2)
  | _ => .int (M k t i)
def gh_ce (wd : gh_Wd) (M : gh_M) (k t : Nat) : va_E := match gh_ar k with
  | some (0, n) => .inl (wd.2.2.1 0, n, .inl (M k t))
  | some (1, n) => .inl (wd.2.2.1 1, n, .inl (M k t))
  | some (a, n) => .inl (wd.2.2.1 a, n, .inr (.inr (.inr (.inr (fun i => some (wd.2.1 (gh_el k i).1 (gh_el k i).2))))))
  | none => .inr (gh_ci k, (List.range (gh_fl k t).length).map (gh_fv wd M k t))
/-- all objects -/
def gh_all : List (Nat × Nat) := (List.range 45).flatMap (fun k => (List.range (gh_cnt k)).map (fun t => (k, t)))
def gh_ws (wd : gh_Wd) (M : gh_M) : va_W := gh_all.map (fun q => (wd.2.1 q.1 q.2, gh_ce wd M q.1 q.2))
def gh_tys (wd : gh_Wd) : List (ClassId × FieldType) := [(wd.2.2.1 0, .int), (wd.2.2.1 1, .boolean), (wd.2.2.1 2, .object RX3), (wd.2.2.1 3, .object RX5)]
-- THE TABLES' WORDS
def gh_G : List Cond := lw_tbl.filter goodWord
def gh_isN : Cond → Bool
  | .fieldLinkNest .. => true
  | .methodLinkNest .. => true
  | _ => false
/-- static arrays that nobody writes -/
def gh_tab (i j : Nat) : Int32 := match i with
  | 0 => ([-1, 0, 1, 1, 0, 4] : List Int32).getD j 0
  | 1 => ([20, 21, 24, 22, 23, 23] : List Int32).getD j 0
  | _ => ([10, 11, 12, 11, 13, 14] : List Int32).getD j 0
def gh_sn (i : Nat) : String := match i with
  | 0 => "IS_TOO" | 1 => "MARK_BODY" | _ => "SIZE_BODY"
/-- what holds in every state of the run, beside the memory -/
def gh_Ok (wd : gh_Wd) (U : State) : Prop :=
  va_K wd.1 gh_cls (gh_tys wd) U ∧ va_D (gh_A wd) (gh_ws wd (fun _ _ _ => 0)) ∧ (∀ w ∈ lw_tbl, gh_isN w = true → va_Nw w U) ∧
  ∀ i, i < 3 → va_Z RX1 (gh_sn i) "[I" (.ref (wd.2.1 (60 + i) 0)) (gh_A wd) U U.heap ∧ va_T .int (wd.2.1 (60 + i) 0) 6 (fun j => .int (gh_tab i j)) (gh_A wd) U U.heap
def gh_W (wd : gh_Wd) (M : gh_M) (U : State) : Prop := va_P wd.1 gh_cls (gh_ws wd M) U.heap ∧ gh_Ok wd U
-- locals
def gh_pr (wd : gh_Wd) (L : List (Option gh_V)) : List (Nat × Value) := L.zipIdx.filterMap (fun q => q.1.map (fun v => (q.2, gh_tv wd v)))
def gh_L (wd : gh_Wd) (ls : Array Slot) (nL : Nat) (L : List (Option gh_V)) : Prop := lv_has ls nL (gh_pr wd L)
-- methods: owner, name, bytes, locals, answer
abbrev gh_MI : Type := String × MethodName × ByteArray × Nat × Option FieldType
def gh_wsm (mi : gh_MI) : List Cond := Cond.code mi.2.1 mi.2.2.1 mi.2.2.2.1 mi.2.2.2.2 :: gh_G
def gh_rm (d : Nat) : Room := { frames := d, cells := 0, slots := 0, locals := 64 * d }
def gh_Pc (wd : gh_Wd) (as : List gh_V) (M : gh_M) : Array Value → State → Prop := fun a U => a = (as.map (gh_tv wd)).toArray ∧ gh_W wd M U
def gh_Qc (wd : gh_Wd) (Qv : Option gh_V → gh_M → Prop) : Array Value → State → Outcome → State → Prop := fun _ st o t => (∃ (r : Option gh_V) (M : gh_M), o = .returned (r.map (gh_tv wd)) ∧ Qv r M ∧ gh_W wd M t) ∧ va_F (gh_A wd) st t
/-- A METHOD'S CONTRACT: with these arguments, in this memory, it returns, and what it answers and leaves is in Qv -/
def gh_Calls (d : Nat) (mi : gh_MI) (as : List gh_V) (M : gh_M) (Qv : Option gh_V → gh_M → Prop) : Prop :=
  ∀ (l : Launch) (wd : gh_Wd), Met l mi.2.1 (gh_wsm mi) (gh_rm d) (gh_Pc wd as M) (gh_Qc wd Qv) 0 0 (gh_A wd)
-- THE RUN WITHIN A METHOD
abbrev gh_X : Type := Program × Launch × Env × Room × State × MethodId × Array Value × List Frame × Method × Code × Nat × Nat × (State → Prop)
def gh_C (mi : gh_MI) (d : Nat) (wd : gh_Wd) : gh_X → Prop
  | (p, _, _, R, s, m, args, _, meth, c, cells, slots, _) => p.tables.exec = Jvm.exec ∧ c.code = mi.2.2.1 ∧ c.maxLocals = mi.2.2.2.1 ∧ s.vm.findClass mi.1 = some m.cls ∧ (∀ w ∈ gh_G, w.before args s = true) ∧ gh_Ok wd s ∧ meth.locks = false ∧ meth.sig.returnType = mi.2.2.2.2 ∧ d ≤ R.frames ∧ 64 * d ≤ R.locals ∧ cells ≤ R.cells ∧ slots ≤ R.slots
/-- from here, with this memory, these locals, this stack, the run comes to the method's end as it should -/
def gh_J (mi : gh_MI) (d : Nat) (wd : gh_Wd) : gh_X → gh_M → Nat → List (Option gh_V) → List gh_V → Prop
  | (p, l, e, R, s, m, args, below, meth, c, cells, slots, Q), M, pc, L, S => gh_C mi d wd (p, l, e, R, s, m, args, below, meth, c, cells, slots, Q) →
    ∀ (H : Heap) (locs : List Loc) (ls : Array Slot), va_P wd.1 gh_cls (gh_ws wd M) H → va_S (gh_A wd) s.heap H locs → gh_L wd ls mi.2.2.2.1 L →
      W p l e R s m args below meth c H locs cells slots Q (F0 m pc ls (S.map (gh_tv wd)))
/-- the end of a method with a contract -/
def gh_E (wd : gh_Wd) (Qv : Option gh_V → gh_M → Prop) : gh_X → Prop
  | (_, _, _, _, s, _, args, below, _, _, cells, slots, Q) => cells = 0 ∧ slots = 0 ∧ Q = MQ below (gh_Qc wd Qv) args s 0 0 (gh_A wd)
-- an instruction, its length, the place behind it
def gh_at (mi : gh_MI) (pc : Nat) (i : Instr) (n pc' : Nat) : Prop := decode mi.2.2.1 pc = .ok (i, n) ∧ pc + n = pc'
/-- a field's link of a class: field j of class number ci -/
def gh_FL (own : String) (idx ci j : Nat) : Prop := ∃ (C : String) (T : u_T) (N : Nat), gh_cls[ci]? = some (C, T, N) ∧ j < N ∧ (Cond.fieldLink own idx (T j).1 (T j).2.1 (T j).2.2.1 ∈ gh_G ∨ ∃ host, Cond.fieldLinkNest own idx (T j).1 (T j).2.1 (T j).2.2.1 host ∈ lw_tbl)
