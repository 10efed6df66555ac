-- BIRTH: the run of those that make
def gn_Ok (wd : gh_Wd) (U : State) : Prop := gh_Ok wd U ∧ gn_B wd ∧ va_AO RX3 U ∧ va_AO RX5 U
def gn_C (mi : gh_MI) (d : Nat) (wd : gh_Wd) : gh_X → Prop
  | (p, _, _, R, s, m, args, _, meth, c, n0, nE, _) => p.tables.exec = Jvm.exec ∧ c.code = mi.2.2.1 ∧ c.maxLocals = mi.2.2.2.1 ∧ s.vm.findClass mi.1 = some m.cls ∧ (∀ w ∈ gh_G, w.before args s = true) ∧ gn_Ok wd s ∧ meth.locks = false ∧ meth.sig.returnType = mi.2.2.2.2 ∧ d ≤ R.frames ∧ 64 * d ≤ R.locals ∧ nE - n0 ≤ R.cells ∧ 2000 * (nE - n0) ≤ R.slots ∧ (mi.2.1.name = "<init>" → meth.name = "<init>")
def gn_J (mi : gh_MI) (d : Nat) (wd : gh_Wd) : gh_X → Nat → Nat → gh_M → Nat → List (Option gh_V) → List gh_V → Prop
  | (p, l, e, R, s, m, args, below, meth, c, n0, nE, Q), n, v, M, pc, L, S => gn_C mi d wd (p, l, e, R, s, m, args, below, meth, c, n0, nE, Q) → n0 ≤ n → n ≤ nE →
    ∀ (H : Heap) (locs : List Loc) (ls : Array Slot), va_P wd.1 gh_cls (gn_ws wd n v M) H → H.size = wd.2.2.2 + n → va_S (gh_A wd) s.heap H locs → gh_L wd ls mi.2.2.2.1 L →
      W p l e R s m args below meth c H locs (n - n0) (2000 * (n - n0)) Q (F0 m pc ls (S.map (gh_tv wd)))
theorem gn_aload_n {mi : gh_MI} {d : Nat} {wd : gh_Wd} {x : gh_X} {n v : Nat} {M : gh_M} {pc pc' : Nat} {L : List (Option gh_V)} {S : List gh_V} {i : Fin 4} {a b : Nat} (hd : gh_at mi pc (.aload_n i) 1 pc') (hv : L[(i : Nat)]? = some (some (vR a b))) (k' : gn_J mi d wd x n v M pc' L (vR a b :: S)) : gn_J mi d wd x n v M pc L (S) := by
  obtain ⟨p, l, e, R, s, m, args, below, meth, c, n0, nE, Q⟩ := x
  obtain ⟨hd, rfl⟩ := hd
  intro hC h0 hE H locs ls hP hz hS hL
  exact lv_aload_n hC.1 hC.2.1 hd rfl (gh_L_at hL hv) (k' hC h0 hE H locs ls hP hz hS hL)
theorem gn_iload_n {mi : gh_MI} {d : Nat} {wd : gh_Wd} {x : gh_X} {n v : Nat} {M : gh_M} {pc pc' : Nat} {L : List (Option gh_V)} {S : List gh_V} {i : Fin 4} {u : Int32} (hd : gh_at mi pc (.iload_n i) 1 pc') (hv : L[(i : Nat)]? = some (some (vI u))) (k' : gn_J mi d wd x n v M pc' L (vI u :: S)) : gn_J mi d wd x n v M pc L (S) := by
  obtain ⟨p, l, e, R, s, m, args, below, meth, c, n0, nE, Q⟩ := x
  obtain ⟨hd, rfl⟩ := hd
  intro hC h0 hE H locs ls hP hz hS hL
  exact lv_iload_n hC.1 hC.2.1 hd rfl (gh_L_at hL hv) (k' hC h0 hE H locs ls hP hz hS hL)
theorem gn_iconst {mi : gh_MI} {d : Nat} {wd : gh_Wd} {x : gh_X} {n v : Nat} {M : gh_M} {pc pc' : Nat} {L : List (Option gh_V)} {S : List gh_V} {z : Int} {u : Int32} (hd : gh_at mi pc (.iconst z) 1 pc') (hv : Int32.ofInt z = u) (k' : gn_J mi d wd x n v M pc' L (vI u :: S)) : gn_J mi d wd x n v M pc L (S) := by
  obtain ⟨p, l, e, R, s, m, args, below, meth, c, n0, nE, Q⟩ := x
  obtain ⟨hd, rfl⟩ := hd
  intro hC h0 hE H locs ls hP hz hS hL
  exact lv_iconst hC.1 hC.2.1 hd hv (k' hC h0 hE H locs ls hP hz hS hL)
theorem gn_bipush {mi : gh_MI} {d : Nat} {wd : gh_Wd} {x : gh_X} {n v : Nat} {M : gh_M} {pc pc' : Nat} {L : List (Option gh_V)} {S : List gh_V} {z : Int} {u : Int32} (hd : gh_at mi pc (.bipush z) 2 pc') (hv : (Int8.ofInt z).toInt32 = u) (k' : gn_J mi d wd x n v M pc' L (vI u :: S)) : gn_J mi d wd x n v M pc L (S) := by
  obtain ⟨p, l, e, R, s, m, args, below, meth, c, n0, nE, Q⟩ := x
  obtain ⟨hd, rfl⟩ := hd
  intro hC h0 hE H locs ls hP hz hS hL
  exact lv_bipush hC.1 hC.2.1 hd hv (k' hC h0 hE H locs ls hP hz hS hL)
theorem gn_sipush {mi : gh_MI} {d : Nat} {wd : gh_Wd} {x : gh_X} {n v : Nat} {M : gh_M} {pc pc' : Nat} {L : List (Option gh_V)} {S : List gh_V} {z : Int} {u : Int32} (hd : gh_at mi pc (.sipush z) 3 pc') (hv : (Int16.ofInt z).toInt32 = u) (k' : gn_J mi d wd x n v M pc' L (vI u :: S)) : gn_J mi d wd x n v M pc L (S) := by
  obtain ⟨p, l, e, R, s, m, args, below, meth, c, n0, nE, Q⟩ := x
  obtain ⟨hd, rfl⟩ := hd
  intro hC h0 hE H locs ls hP hz hS hL
  exact lv_sipush hC.1 hC.2.1 hd hv (k' hC h0 hE H locs ls hP hz hS hL)
theorem gn_dup {mi : gh_MI} {d : Nat} {wd : gh_Wd} {x : gh_X} {n v : Nat} {M : gh_M} {pc pc' : Nat} {L : List (Option gh_V)} {S : List gh_V} {a b : Nat} (hd : gh_at mi pc (.dup) 1 pc')  (k' : gn_J mi d wd x n v M pc' L (vR a b :: vR a b :: S)) : gn_J mi d wd x n v M pc L (vR a b :: S) := by
  obtain ⟨p, l, e, R, s, m, args, below, meth, c, n0, nE, Q⟩ := x
  obtain ⟨hd, rfl⟩ := hd
  intro hC h0 hE H locs ls hP hz hS hL
  exact lv_dup hC.1 hC.2.1 hd rfl (k' hC h0 hE H locs ls hP hz hS hL)
theorem gn_goto {mi : gh_MI} {d : Nat} {wd : gh_Wd} {x : gh_X} {n v : Nat} {M : gh_M} {pc pc' : Nat} {L : List (Option gh_V)} {S : List gh_V} {off : Int} {tgt : Nat} (hd : gh_at mi pc (.goto off) 3 pc') (ht : (pc : Int) + off = (tgt : Int)) (k' : gn_J mi d wd x n v M tgt L (S)) : gn_J mi d wd x n v M pc L (S) := by
  obtain ⟨p, l, e, R, s, m, args, below, meth, c, n0, nE, Q⟩ := x
  obtain ⟨hd, rfl⟩ := hd
  intro hC h0 hE H locs ls hP hz hS hL
  exact lv_goto hC.1 hC.2.1 hd ht (k' hC h0 hE H locs ls hP hz hS hL)
theorem gn_istore_n {mi : gh_MI} {d : Nat} {wd : gh_Wd} {x : gh_X} {n v : Nat} {M : gh_M} {pc pc' : Nat} {L : List (Option gh_V)} {S : List gh_V} {i : Fin 4} {u : Int32} {L' : List (Option gh_V)} (hd : gh_at mi pc (.istore_n i) 1 pc') (hn : (i : Nat) < mi.2.2.2.1) (hl : gh_nl L (i : Nat) = true) (hset : L.set (i : Nat) (some (vI u)) = L') (k' : gn_J mi d wd x n v M pc' L' (S)) : gn_J mi d wd x n v M pc L (vI u :: S) := by
  obtain ⟨p, l, e, R, s, m, args, below, meth, c, n0, nE, Q⟩ := x
  obtain ⟨hd, rfl⟩ := hd
  intro hC h0 hE H locs ls hP hz hS hL
  subst hset
  exact lv_istore_n hC.1 hC.2.1 hd rfl hL hn rfl (fun ls' hs => k' hC h0 hE H locs ls' hP hz hS (gh_L_s1 hL (vI u) hl hs))
theorem gn_iinc {mi : gh_MI} {d : Nat} {wd : gh_Wd} {x : gh_X} {n v : Nat} {M : gh_M} {pc pc' : Nat} {L : List (Option gh_V)} {S : List gh_V} {i : Nat} {z : Int} {w u : Int32} {L' : List (Option gh_V)} (hd : gh_at mi pc (.iinc i z) 3 pc') (hu : L[i]? = some (some (vI w))) (hv : w + Int32.ofInt z = u) (hn : i < mi.2.2.2.1) (hl : gh_nl L i = true) (hset : L.set i (some (vI u)) = L') (k' : gn_J mi d wd x n v M pc' L' (S)) : gn_J mi d wd x n v M pc L (S) := by
  obtain ⟨p, l, e, R, s, m, args, below, meth, c, n0, nE, Q⟩ := x
  obtain ⟨hd, rfl⟩ := hd
  intro hC h0 hE H locs ls hP hz hS hL
  subst hset
  obtain ⟨j, hj⟩ := List.getElem?_of_mem (gh_pr_mem.mpr ⟨vI w, hu, rfl⟩ : (i, gh_tv wd (vI w)) ∈ gh_pr wd L)
  exact lv_iinc hC.1 hC.2.1 hd hL hj hv hn rfl (fun ls' hs => k' hC h0 hE H locs ls' hP hz hS (gh_L_s1 hL (vI u) hl hs))
theorem gn_astore_n {mi : gh_MI} {d : Nat} {wd : gh_Wd} {x : gh_X} {n v : Nat} {M : gh_M} {pc pc' : Nat} {L : List (Option gh_V)} {S : List gh_V} {i : Fin 4} {a b : Nat} {L' : List (Option gh_V)} (hd : gh_at mi pc (.astore_n i) 1 pc') (hn : (i : Nat) < mi.2.2.2.1) (hl : gh_nl L (i : Nat) = true) (hset : L.set (i : Nat) (some (vR a b)) = L') (k' : gn_J mi d wd x n v M pc' L' (S)) : gn_J mi d wd x n v M pc L (vR a b :: S) := by
  obtain ⟨p, l, e, R, s, m, args, below, meth, c, n0, nE, Q⟩ := x
  obtain ⟨hd, rfl⟩ := hd
  intro hC h0 hE H locs ls hP hz hS hL
  subst hset
  exact lv_astore_n hC.1 hC.2.1 hd rfl hL hn rfl (fun ls' hs => k' hC h0 hE H locs ls' hP hz hS (gh_L_s1 hL (vR a b) hl hs))
theorem gn_icmp_ge {mi : gh_MI} {d : Nat} {wd : gh_Wd} {x : gh_X} {n v : Nat} {M : gh_M} {pc pc' : Nat} {L : List (Option gh_V)} {S : List gh_V} {a b : Int32} {off : Int} {tgt : Nat} (hd : gh_at mi pc (.if_icmp .ge off) 3 pc') (ht : (pc : Int) + off = (tgt : Int)) (kt : b ≤ a → gn_J mi d wd x n v M tgt L S) (kf : ¬ b ≤ a → gn_J mi d wd x n v M pc' L S) : gn_J mi d wd x n v M pc L (vI b :: vI a :: S) := by
  obtain ⟨p, l, e, R, s, m, args, below, meth, c, n0, nE, Q⟩ := x
  obtain ⟨hd, rfl⟩ := hd
  intro hC h0 hE H locs ls hP hz hS hL
  exact lv_icmp_ge hC.1 hC.2.1 hd ht (fun h => kt h hC h0 hE H locs ls hP hz hS hL) (fun h => kf h hC h0 hE H locs ls hP hz hS hL)
/-- Object's own -/
theorem gn_obj {mi : gh_MI} {d : Nat} {wd : gh_Wd} {x : gh_X} {n v : Nat} {M : gh_M} {pc pc' : Nat} {L : List (Option gh_V)} {S : List gh_V} {idx a b : Nat} (hd : gh_at mi pc (.invokespecial idx) 3 pc') (hl : Cond.methodLink mi.1 idx Lib.objectInit ∈ gh_G) (hi : Cond.instanceMethod Lib.objectInit ∈ gh_G) (hc : Cond.code Lib.objectInit ⟨#[0xb1]⟩ 1 none ∈ gh_G) (hdd : 1 ≤ d) (hwS : (S.map gh_cat).sum ≤ 8) (k' : gn_J mi d wd x n v M pc' L S) : gn_J mi d wd x n v M pc L (vR a b :: S) := by
  obtain ⟨p, l, e, R, s, m, args, below, meth, c, n0, nE, Q⟩ := x
  obtain ⟨hd, rfl⟩ := hd
  intro hC h0 hE H locs ls hP hz hS hL
  have hts := hC.2.2.2.2.1
  have r1 := hC.2.2.2.2.2.2.2.2.1
  have r2 := hC.2.2.2.2.2.2.2.2.2.1
  refine W.objInit hC.1 hC.2.1 hC.2.2.2.1 (hts _ hl) (hts _ hi) (hts _ hc) rfl (hL.1.trans hC.2.2.1.symm) (a := wd.2.1 a b) (rest := S.map (gh_tv wd)) rfl hd (by omega) ?_ (k' hC h0 hE H locs ls hP hz hS hL)
  have h1 : 2 * (F0 m pc ls ((vR a b :: S).map (gh_tv wd))).monitorRoom + ((S.map (gh_tv wd)).map fun v => v.category).sum ≤ 8 := lv_room (by rw [gh_cat_tv]; exact hwS)
  omega
/-- a reference field is read -/
theorem gn_getR {mi : gh_MI} {d : Nat} {wd : gh_Wd} {x : gh_X} {n v : Nat} {M : gh_M} {pc pc' : Nat} {L : List (Option gh_V)} {S : List gh_V} {idx k t j : Nat} {z : Nat × Nat} (hd : gh_at mi pc (.getfield idx) 3 pc') (hf : gh_FL mi.1 idx (gh_ci k) j) (hk : k < 45) (ht : t < gh_cnt k) (ho : gh_ar k = none) (hfl : (gh_fl k t)[j]? = some (some z)) (hn : odr k t < n) (hv : evn z.1 z.2 < v) (k' : gn_J mi d wd x n v M pc' L (vR z.1 z.2 :: S)) : gn_J mi d wd x n v M pc L (vR k t :: S) := by
  obtain ⟨p, l, e, R, s, m, args, below, meth, c, n0, nE, Q⟩ := x
  obtain ⟨hd, rfl⟩ := hd
  intro hC h0 hE H locs ls hP hz hS hL
  have he := gn_ws_at (wd := wd) (v := v) (M := M) hk ht hn
  rw [gn_ce_o ho] at he
  obtain ⟨C, T, N, hc, hj, hlink⟩ := hf
  have hg := gn_fs_at (wd := wd) (v := v) (M := M) hfl
  have hg2 : gn_fv wd v M k t j = .ref (wd.2.1 z.1 z.2) := by
    unfold gn_fv
    rw [hfl]
    show (if evn z.1 z.2 < v then Value.ref (wd.2.1 z.1 z.2) else .null) = _
    rw [if_pos hv]
  rw [hg2] at hg
  rcases hlink with hlink | ⟨host, hlink⟩
  · exact va_get hC.1 hC.2.1 hC.2.2.2.2.1 (gh_in hc) hC.2.2.2.1 hC.2.2.2.2.2.1.1.1 hP _ he hc j hj (hC.2.2.2.2.1 _ hlink) (fun _ h9 => h9) hg hd (k' hC h0 hE H locs ls hP hz hS hL)
  · exact va_getN hC.1 hC.2.1 hC.2.2.2.2.1 (gh_in hc) hC.2.2.2.1 hC.2.2.2.2.2.1.1.1 hP _ he hc j hj (va_Nw.use rfl (hC.2.2.2.2.2.1.1.2.2.1 _ hlink rfl)) (fun _ h9 => h9) hg hd (k' hC h0 hE H locs ls hP hz hS hL)
/-- a reference is put into a final field of one's own -/
theorem gn_putR {mi : gh_MI} {d : Nat} {wd : gh_Wd} {x : gh_X} {n v : Nat} {M : gh_M} {pc pc' : Nat} {L : List (Option gh_V)} {S : List gh_V} {idx k t j : Nat} {z : Nat × Nat} (hd : gh_at mi pc (.putfield idx) 3 pc') {C : String} {T : u_T} {N : Nat} (hc : gh_cls[gh_ci k]? = some (C, T, N)) (hj : j < N) (hlink : Cond.fieldLink mi.1 idx (T j).1 (T j).2.1 (T j).2.2.1 ∈ gh_G) (hk : k < 45) (ht : t < gh_cnt k) (ho : gh_ar k = none) (hfl : (gh_fl k t)[j]? = some (some z)) (hn : odr k t < n) (hv : evn z.1 z.2 = v) (hfin : (T j).2.2.2 = true) (hown : (T j).1 = mi.1) (hini : mi.2.1.name = "<init>") (hfit : (gh_ty (gh_ci k) j).isReference = true) (k' : gn_J mi d wd x n (v + 1) M pc' L S) : gn_J mi d wd x n v M pc L (vR z.1 z.2 :: vR k t :: S) := by
  obtain ⟨p, l, e, R, s, m, args, below, meth, c, n0, nE, Q⟩ := x
  obtain ⟨hd, rfl⟩ := hd
  intro hC h0 hE H locs ls hP hz hS hL
  subst hv
  have hD := gn_D (n := n) (v := evn z.1 z.2) (M := M) hC.2.2.2.2.2.1.2.1
  have he := gn_ws_at (wd := wd) (v := evn z.1 z.2) (M := M) hk ht hn
  rw [gn_ce_o ho] at he
  have hts := hC.2.2.2.2.1
  have hin := gh_in hc
  obtain ⟨hty, hnm⟩ := gh_cl_ok hc
  have hK := hC.2.2.2.2.2.1.1.1
  have hap := va_apart (own := mi.1) hts hin (gh_ty (gh_ci k)) hty hnm hK hc
  obtain ⟨r, h1, cell, q1, q2, q3, q4⟩ := hP _ _ he
  have hr : r = (C, T, N) := Option.some.inj (h1.symm.trans hc)
  subst hr
  obtain ⟨hSl, hfc, kC, hkC, hkind⟩ := hK.1 _ _ hc
  obtain ⟨cf, kf, fi, f, hi, hsl⟩ := hSl j hj
  have hlay := hts _ (hin _ (u_in_lay hj))
  unfold u_lay at hlay
  rw [if_pos hfin] at hlay
  have hst := (u_facts hfc hkC (u_lays hts hin hj) hi).1
  have hcf : m.cls = cf := by
    obtain ⟨_, _, c', _, _, _, -, -, hf', -, -, -, hown2, -⟩ := Cond.laysFinal_spec hlay
    have e1 : c' = cf := by have := hi.symm.trans hf'; simp at this; exact this.1.symm
    rw [hown] at hown2
    rw [← e1]; exact Option.some.inj (hC.2.2.2.1.symm.trans hown2)
  have hnar : narrow (gh_ty (gh_ci k) j) (.ref (wd.2.1 z.1 z.2)) = .ref (wd.2.1 z.1 z.2) := by cases gh_ty (gh_ci k) j <;> rfl
  have hfits : fits (gh_ty (gh_ci k) j) (.ref (wd.2.1 z.1 z.2)) = true := by revert hfit; cases gh_ty (gh_ci k) j <;> intro hfit <;> first | rfl | cases hfit
  have h6 := u_fits hfc hkC hkind (Or.inr hlay) hi (hty j hj) hnar hfits
  have hl : j < ((List.range (gh_fl k t).length).map (gn_fv wd (evn z.1 z.2) M k t)).length := by simp; exact (List.getElem?_eq_some_iff.mp hfl).1
  have e1 : gn_ce wd (evn z.1 z.2 + 1) M k t = .inr (gh_ci k, ((List.range (gh_fl k t).length).map (gn_fv wd (evn z.1 z.2) M k t)).set j (.ref (wd.2.1 z.1 z.2))) := by rw [gn_ce_o ho, gn_fs_set hk ht ho hfl]
  have tg : gh_tg k t j = some z := by unfold gh_tg; rw [ho]; show (match (gh_fl k t)[j]? with | some (some q) => some q | _ => none) = some z; rw [hfl]
  have e2 := gn_set (wd := wd) (n := n) (v := evn z.1 z.2) (M := M) hk ht hn e1 (fun a b ha hb hne => gn_ce_up hk ht tg ha hb hne)
  refine W.putFinK hC.1 hC.2.1 hC.2.2.2.1 (hts _ hlink) hi hst hcf (hC.2.2.2.2.2.2.2.2.2.2.2.2 hini) (by rw [q2]; exact h6) q1 q3 (by rw [hsl]; exact k2_hasslot (q4 j hj)) rfl rfl hd fun H' e3 e4 e5 => ?_
  rw [hsl] at e3 ⊢
  have hP' := hP.set hD he (e := .inr (gh_ci k, ((List.range (gh_fl k t).length).map (gn_fv wd (evn z.1 z.2) M k t)).set j (.ref (wd.2.1 z.1 z.2)))) ⟨_, hc, t_OB.to (V := updV (vp_V ((List.range (gh_fl k t).length).map (gn_fv wd (evn z.1 z.2) M k t))) j (.ref (wd.2.1 z.1 z.2))) ⟨_, e3, q2, q3, t_set q4 hap hj _⟩ (fun i _ => vp_updV_set hl _ i)⟩ e5
  rw [e2] at hP'
  exact k' hC h0 hE H' _ ls hP' (e4.trans hz) (hS.put e4 e5 (hD.2 _ _ he)) hL
/-- a reference is put into an array -/
theorem gn_aast {mi : gh_MI} {d : Nat} {wd : gh_Wd} {x : gh_X} {n v : Nat} {M : gh_M} {pc pc' : Nat} {L : List (Option gh_V)} {S : List gh_V} {k t c0 N : Nat} {i : Int32} {j : Nat} {C : String} {T : u_T} {NN : Nat} (hd : gh_at mi pc (.aastore) 1 pc') (hk : k < 45) (ht : t < gh_cnt k) (har : gh_ar k = some (c0 + 2, N)) (hty : (gh_tys wd)[c0 + 2]? = some (wd.2.2.1 (c0 + 2), .object C)) (hc : gh_cls[gh_ci (gh_el k j).1]? = some (C, T, NN)) (hij : i = nI j) (hj : j < N) (hN : N < 100) (hn : odr k t < n) (hk2 : (gh_el k j).1 < 45) (ht2 : (gh_el k j).2 < gh_cnt (gh_el k j).1) (ho2 : gh_ar (gh_el k j).1 = none) (hn2 : odr (gh_el k j).1 (gh_el k j).2 < n) (hv : evn (gh_el k j).1 (gh_el k j).2 = v) (k' : gn_J mi d wd x n (v + 1) M pc' L S) : gn_J mi d wd x n v M pc L (vR (gh_el k j).1 (gh_el k j).2 :: vI i :: vR k t :: S) := by
  obtain ⟨p, l, e, R, s, m, args, below, meth, c, n0, nE, Q⟩ := x
  obtain ⟨hd, rfl⟩ := hd
  intro hC h0 hE H locs ls hP hz hS hL
  subst hv
  subst hij
  have hD := gn_D (n := n) (v := evn (gh_el k j).1 (gh_el k j).2) (M := M) hC.2.2.2.2.2.1.2.1
  have he := gn_ws_at (wd := wd) (v := evn (gh_el k j).1 (gh_el k j).2) (M := M) hk ht hn
  rw [gn_ce_r har] at he
  have he2 := gn_ws_at (wd := wd) (v := evn (gh_el k j).1 (gh_el k j).2) (M := M) hk2 ht2 hn2
  rw [gn_ce_o ho2] at he2
  have hK := hC.2.2.2.2.2.1.1.1
  have hcl : (nI j).toNatClampNeg = j := nI_clamp (by omega)
  have tg : gh_tg k t j = some (gh_el k j) := by unfold gh_tg; rw [har]; show (if 2 ≤ c0 + 2 ∧ j < N then some (gh_el k j) else none) = _; rw [if_pos ⟨by omega, hj⟩]
  obtain ⟨r', hr', cellV, g1, g2, g3, -⟩ := hP _ _ he2
  have hcls := (hK.1 _ _ hc).2
  obtain ⟨kA, comp, k1, k2, k3, -⟩ := (hK.2 _ _ hty).2
  have hcomp : comp = wd.1.1 (gh_ci (gh_el k j).1) := Option.some.inj (k3.symm.trans hcls.1)
  subst hcomp
  obtain ⟨kC, hkC, -⟩ := hcls.2
  have eF : (fun i => if i < N ∧ evn (gh_el k i).1 (gh_el k i).2 < evn (gh_el k j).1 (gh_el k j).2 + 1 then some (wd.2.1 (gh_el k i).1 (gh_el k i).2) else none) = va_up (fun i => if i < N ∧ evn (gh_el k i).1 (gh_el k i).2 < evn (gh_el k j).1 (gh_el k j).2 then some (wd.2.1 (gh_el k i).1 (gh_el k i).2) else none) j (some (wd.2.1 (gh_el k j).1 (gh_el k j).2)) := funext fun i => by
    unfold va_up
    by_cases q : i = j
    · subst q
      rw [if_pos rfl, if_pos ⟨hj, by omega⟩]
    · rw [if_neg q]
      by_cases q2 : i < N
      · have tg2 : gh_tg k t i = some (gh_el k i) := by unfold gh_tg; rw [har]; show (if 2 ≤ c0 + 2 ∧ i < N then some (gh_el k i) else none) = _; rw [if_pos ⟨by omega, q2⟩]
        have hne : evn (gh_el k i).1 (gh_el k i).2 ≠ evn (gh_el k j).1 (gh_el k j).2 := fun e => by
          obtain ⟨-, -, e3⟩ := gh_tg_u hk ht hk ht tg2 tg e
          exact q e3
        have : (evn (gh_el k i).1 (gh_el k i).2 < evn (gh_el k j).1 (gh_el k j).2 + 1) ↔ (evn (gh_el k i).1 (gh_el k i).2 < evn (gh_el k j).1 (gh_el k j).2) := by omega
        simp only [this]
      · simp only [q2, false_and]
  have e1 : gn_ce wd (evn (gh_el k j).1 (gh_el k j).2 + 1) M k t = .inl (wd.2.2.1 (c0 + 2), N, .inr (.inr (.inr (.inr (va_up (fun i => if i < N ∧ evn (gh_el k i).1 (gh_el k i).2 < evn (gh_el k j).1 (gh_el k j).2 then some (wd.2.1 (gh_el k i).1 (gh_el k i).2) else none) j (some (wd.2.1 (gh_el k j).1 (gh_el k j).2))))))) := by rw [gn_ce_r har, eF]
  have e2 := gn_set (wd := wd) (n := n) (v := evn (gh_el k j).1 (gh_el k j).2) (M := M) hk ht hn e1 (fun a b ha hb hne => gn_ce_up hk ht tg ha hb hne)
  refine W.aast hC.1 hC.2.1 (hP _ _ he) (fun q h => by cases h) (fun h => by cases h) k1 k2 rfl hkC ⟨nI_pos (by omega), by show _ < (arrV _ _ _).slots.size; rw [arrV_size, hcl]; exact hj⟩ g1 (fun q h => by rw [g3] at h; cases h) (by rw [g2]; exact hkC) (by rw [g2]; exact va_assign hcls) rfl rfl hd fun H1 e3 e4 e5 => ?_
  rw [hcl] at e3 ⊢
  have hP' := hP.set hD he (e := .inl (wd.2.2.1 (c0 + 2), N, .inr (.inr (.inr (.inr (va_up (fun i => if i < N ∧ evn (gh_el k i).1 (gh_el k i).2 < evn (gh_el k j).1 (gh_el k j).2 then some (wd.2.1 (gh_el k i).1 (gh_el k i).2) else none) j (some (wd.2.1 (gh_el k j).1 (gh_el k j).2)))))))) (by
    show H1[wd.2.1 k t]? = some (vp_cell _ _)
    rw [e3, vp_cell_q, vp_cell_q, arrV_store]
    congr 2
    funext q
    by_cases hq : q = j
    · subst hq
      simp [updV, va_up, va_rf]
    · simp [updV, va_up, hq]) e5
  rw [e2] at hP'
  exact k' hC h0 hE H1 _ ls hP' (e4.trans hz) (hS.put e4 e5 (hD.2 _ _ he)) hL
/-- a number is put into an array -/
theorem gn_iast {mi : gh_MI} {d : Nat} {wd : gh_Wd} {x : gh_X} {n v : Nat} {M : gh_M} {pc pc' : Nat} {L : List (Option gh_V)} {S : List gh_V} {k t N : Nat} {i u : Int32} {j : Nat} (hd : gh_at mi pc (.iastore) 1 pc') (hk : k < 45) (ht : t < gh_cnt k) (har : gh_ar k = some (0, N)) (hij : i = nI j) (hj : j < N) (hN : N < 2000) (hn : odr k t < n) (k' : gn_J mi d wd x n v (gh_st M k t j u) pc' L S) : gn_J mi d wd x n v M pc L (vI u :: vI i :: vR k t :: S) := by
  obtain ⟨p, l, e, R, s, m, args, below, meth, c, n0, nE, Q⟩ := x
  obtain ⟨hd, rfl⟩ := hd
  intro hC h0 hE H locs ls hP hz hS hL
  subst hij
  have hD := gn_D (n := n) (v := v) (M := M) hC.2.2.2.2.2.1.2.1
  have he := gn_ws_at (wd := wd) (v := v) (M := M) hk ht hn
  rw [gn_ce_i har] at he
  have hK := hC.2.2.2.2.2.1.1.1
  have hcl : (nI j).toNatClampNeg = j := nI_clamp (by omega)
  have e1 : gn_ce wd v (gh_st M k t j u) k t = .inl (wd.2.2.1 0, N, .inl (upd (M k t) j u)) := by rw [gn_ce_i har]; unfold gh_st; rw [gh_row_self]
  have e2 := gn_set (wd := wd) (n := n) (v := v) (M := M) hk ht hn e1 (fun a b ha hb hne => by
    have e9 : gh_st M k t j u a b = M a b := gh_row_ne M _ hne
    have e8 : gn_fv wd v (gh_st M k t j u) a b = gn_fv wd v M a b := funext fun i => by unfold gn_fv; rw [e9]
    unfold gn_ce
    rw [e9, e8])
  refine W.iast hC.1 hC.2.1 (hP _ _ he) ((hK.2 0 _ rfl).1 N (fun j => .int (M k t j))) (fun q => by cases q) (by show ¬ (nI j < 0 ∨ (arrV _ _ _).slots.size ≤ _); rw [arrV_size]; exact (vp_in_nI hj (show N < 2 ^ 31 by omega) : vp_in (nI j) N)) rfl rfl hd fun H1 e3 e4 e5 => ?_
  rw [hcl] at e3 ⊢
  have hP' := hP.set hD he (e := .inl (wd.2.2.1 0, N, .inl (upd (M k t) j u))) (by
    show H1[wd.2.1 k t]? = some (vp_cell _ _)
    rw [e3, vp_cell_i, vp_cell_i, arrV_store]
    congr 2
    funext q
    by_cases hq : q = j
    · subst hq
      simp [updV, upd]
    · simp [updV, upd, hq]) e5
  rw [e2] at hP'
  exact k' hC h0 hE H1 _ ls hP' (e4.trans hz) (hS.put e4 e5 (hD.2 _ _ he)) hL
theorem gn_S_push {wd : gh_Wd} {H0 H H1 : Heap} {locs : List Loc} (hS : va_S (gh_A wd) H0 H locs) (z : H1.size = H.size + 1) (o : ∀ q, q < H.size → H1[q]? = H[q]?) : va_S (gh_A wd) H0 H1 locs :=
  ⟨Nat.le_trans hS.1 (by omega), fun x h1 h2 => (o x (Nat.lt_of_lt_of_le h1 hS.1)).trans (hS.2.1 x h1 h2), hS.2.2⟩
theorem gn_P_push {wd : gh_Wd} {n v k t : Nat} {M : gh_M} {H H1 : Heap} (hk : k < 45) (ht : t < gh_cnt k) (ho : odr k t = n) (hP : va_P wd.1 gh_cls (gn_ws wd n v M) H) (o : ∀ q, q < H.size → H1[q]? = H[q]?) (hn : va_at wd.1 gh_cls (wd.2.1 k t, gn_ce wd v M k t) H1) : va_P wd.1 gh_cls (gn_ws wd (n + 1) v M) H1 := by
  rw [gn_push hk ht ho]
  refine (hP.kept (fun i x hx => o x.1 (hP i x hx).lt)).app (fun i x hx => ?_)
  have hz : i < 1 := (List.getElem?_eq_some_iff.mp hx).1
  rw [show i = 0 by omega] at hx
  cases hx
  exact hn
/-- a new array of numbers (z = 0: int, 1: boolean) -/
theorem gn_newa {mi : gh_MI} {d : Nat} {wd : gh_Wd} {x : gh_X} {n v : Nat} {M : gh_M} {pc pc' : Nat} {L : List (Option gh_V)} {S : List gh_V} {k t N : Nat} {z : Nat} {aty : ArrayType} {u : Int32} (hd : gh_at mi pc (.newarray aty) 2 pc') (hk : k < 45) (ht : t < gh_cnt k) (har : gh_ar k = some (z, N)) (hz2 : z = 0 ∧ aty = .int ∨ z = 1 ∧ aty = .boolean) (hw : Cond.arrayClass (newarray.typeOf aty) ∈ gh_G) (hu : u = nI N) (hN : N < 2000) (ho : odr k t = n) (hnE : n < x.2.2.2.2.2.2.2.2.2.2.2.1) (hM : ∀ j, M k t j = 0) (k' : gn_J mi d wd x (n + 1) v M pc' L (vR k t :: S)) : gn_J mi d wd x n v M pc L (vI u :: S) := by
  obtain ⟨p, l, e, R, s, m, args, below, meth, c, n0, nE, Q⟩ := x
  obtain ⟨hd, rfl⟩ := hd
  have hnE : n < nE := hnE
  intro hC h0 hE H locs ls hP hz hS hL
  subst hu
  have rc := hC.2.2.2.2.2.2.2.2.2.2.1
  have rs := hC.2.2.2.2.2.2.2.2.2.2.2.1
  have hK := hC.2.2.2.2.2.1.1.1
  have hB := hC.2.2.2.2.2.1.2.1
  have ha : wd.2.1 k t = wd.2.2.2 + n := by rw [hB k t hk, ho]
  refine va_newaK hC.1 hC.2.1 (hC.2.2.2.2.1 _ hw) (N := N) rfl hd rfl (nI_pos (by omega)) (nI_clamp (by omega)) ?_ (by omega) (by omega) hz fun H1 cA e1 z1 o1 hAr hNm => ?_
  · rcases hz2 with ⟨-, rfl⟩ | ⟨-, rfl⟩
    · show N * 4 ≤ _; omega
    · show N * 1 ≤ _; omega
  · refine W.widen (k := n + 1 - n0) (n := 2000 * (n + 1 - n0)) (by omega) (by omega) ?_
    have hn : va_at wd.1 gh_cls (wd.2.1 k t, gn_ce wd v M k t) H1 := by
      have e9 : M k t = fun _ => 0 := funext hM
      rcases hz2 with ⟨rfl, rfl⟩ | ⟨rfl, rfl⟩
      · have ec : cA = wd.2.2.1 0 := Option.some.inj (hNm.symm.trans (hK.2 0 _ rfl).2)
        rw [gn_ce_i har]
        show H1[wd.2.1 k t]? = some (vp_cell _ _)
        rw [ha, e1, vp_cell_i, e9, ec]
        rfl
      · have ec : cA = wd.2.2.1 1 := Option.some.inj (hNm.symm.trans (hK.2 1 _ rfl).2)
        rw [gn_ce_z har]
        show H1[wd.2.1 k t]? = some (vp_cell _ _)
        rw [ha, e1, vp_cell_i, e9, ec]
        rfl
    have := k' hC (by omega) (by omega) H1 locs ls (gn_P_push hk ht ho hP (fun q hq => o1 q (by omega)) hn) (by omega) (gn_S_push hS (by omega) (fun q hq => o1 q (by omega))) hL
    rw [List.map_cons] at this
    have e7 : gh_tv wd (vR k t) = .ref (wd.2.2.2 + n) := by show Value.ref (wd.2.1 k t) = _; rw [ha]
    rw [e7] at this
    exact this
/-- a new array of references -/
theorem gn_anew {mi : gh_MI} {d : Nat} {wd : gh_Wd} {x : gh_X} {n v : Nat} {M : gh_M} {pc pc' : Nat} {L : List (Option gh_V)} {S : List gh_V} {idx k t N a : Nat} {C : String} {u : Int32} (hd : gh_at mi pc (.anewarray idx) 3 pc') (hk : k < 45) (ht : t < gh_cnt k) (har : gh_ar k = some (a + 2, N)) (hcl : Cond.classLink mi.1 idx C ∈ gh_G) (hao : ∀ U, gn_Ok wd U → va_AO C U) (hty : (gh_tys wd)[a + 2]? = some (wd.2.2.1 (a + 2), .object C)) (hu : u = nI N) (hN : N < 2000) (ho : odr k t = n) (hnE : n < x.2.2.2.2.2.2.2.2.2.2.2.1) (hfr : ∀ j, j < N → v ≤ evn (gh_el k j).1 (gh_el k j).2) (k' : gn_J mi d wd x (n + 1) v M pc' L (vR k t :: S)) : gn_J mi d wd x n v M pc L (vI u :: S) := by
  obtain ⟨p, l, e, R, s, m, args, below, meth, c, n0, nE, Q⟩ := x
  obtain ⟨hd, rfl⟩ := hd
  have hnE : n < nE := hnE
  intro hC h0 hE H locs ls hP hz hS hL
  subst hu
  have rc := hC.2.2.2.2.2.2.2.2.2.2.1
  have rs := hC.2.2.2.2.2.2.2.2.2.2.2.1
  have hK := hC.2.2.2.2.2.1.1.1
  have hB := hC.2.2.2.2.2.1.2.1
  have hcl2 : (nI N).toNatClampNeg = N := nI_clamp (by omega)
  have ha : wd.2.1 k t = wd.2.2.2 + n := by rw [hB k t hk, ho]
  refine W.anew hC.1 hC.2.1 hC.2.2.2.1 (hC.2.2.2.2.1 _ hcl) (va_AO.use (hao s hC.2.2.2.2.2.1)) rfl hd rfl (nI_pos (by omega)) (by rw [hcl2]; omega) (by omega) (by rw [hcl2]; omega) fun cA kA comp f1 f2 f3 f4 => ?_
  rw [hcl2]
  generalize hH1 : H.push ({ cls := cA, slots := Array.replicate N .null, vm := .none } : Cell) = H1
  have z1 : H1.size = H.size + 1 := by rw [← hH1, Array.size_push]
  have e1 : H1[H.size]? = some (arrV cA N (fun _ => .null)) := by rw [← hH1, Array.getElem?_push_size, ← arrV_new]
  have o1 : ∀ q : Nat, q < H.size → H1[q]? = H[q]? := fun q hq => by rw [← hH1, Array.getElem?_push, if_neg (Nat.ne_of_lt hq)]
  refine W.widen (k := n + 1 - n0) (n := 2000 * (n + 1 - n0)) (by omega) (by omega) ?_
  have hn : va_at wd.1 gh_cls (wd.2.1 k t, gn_ce wd v M k t) H1 := by
    obtain ⟨kA2, comp2, k1, k2, k3, k4⟩ := (hK.2 _ _ hty).2
    have ec : cA = wd.2.2.1 (a + 2) := Option.some.inj (f1.symm.trans k4)
    rw [gn_ce_r har]
    show H1[wd.2.1 k t]? = some (vp_cell _ _)
    have e9 : (fun i => if i < N ∧ evn (gh_el k i).1 (gh_el k i).2 < v then some (wd.2.1 (gh_el k i).1 (gh_el k i).2) else none) = fun _ => none := funext fun i => by
      rw [if_neg (fun q => by have := hfr i q.1; omega)]
    rw [ha, ← hz, e1, e9, vp_cell_q, ec]
    rfl
  have := k' hC (by omega) (by omega) H1 locs ls (gn_P_push hk ht ho hP o1 hn) (by omega) (gn_S_push hS z1 o1) hL
  rw [List.map_cons] at this
  have e7 : gh_tv wd (vR k t) = .ref H.size := by show Value.ref (wd.2.1 k t) = _; rw [ha, hz]
  rw [e7] at this
  exact this
/-- a new object -/
theorem gn_new {mi : gh_MI} {d : Nat} {wd : gh_Wd} {x : gh_X} {n v : Nat} {M : gh_M} {pc pc' : Nat} {L : List (Option gh_V)} {S : List gh_V} {idx k t : Nat} {C : String} {T : u_T} {N : Nat} (hd : gh_at mi pc (.new idx) 3 pc') (hk : k < 45) (ht : t < gh_cnt k) (har : gh_ar k = none) (hc : gh_cls[gh_ci k]? = some (C, T, N)) (hcl : Cond.classLink mi.1 idx C ∈ gh_G) (hins : Cond.instantiable C N ∈ gh_G) (hini : Cond.initialized C ∈ gh_G) (hN : N < 100) (hlen : (gh_fl k t).length = N) (hdef : ∀ j, j < N → defaultValue (gh_ty (gh_ci k) j) = frV (gh_fl k t)[j]?) (ho : odr k t = n) (hnE : n < x.2.2.2.2.2.2.2.2.2.2.2.1) (hfr : ∀ (j : Nat) (z : Nat × Nat), (gh_fl k t)[j]? = some (some z) → v ≤ evn z.1 z.2) (hM : ∀ j, M k t j = 0) (k' : gn_J mi d wd x (n + 1) v M pc' L (vR k t :: S)) : gn_J mi d wd x n v M pc L S := by
  obtain ⟨p, l, e, R, s, m, args, below, meth, c, n0, nE, Q⟩ := x
  obtain ⟨hd, rfl⟩ := hd
  have hnE : n < nE := hnE
  intro hC h0 hE H locs ls hP hz hS hL
  have rc := hC.2.2.2.2.2.2.2.2.2.2.1
  have rs := hC.2.2.2.2.2.2.2.2.2.2.2.1
  have hK := hC.2.2.2.2.2.1.1.1
  have hB := hC.2.2.2.2.2.1.2.1
  have hts := hC.2.2.2.2.1
  have ha : wd.2.1 k t = wd.2.2.2 + n := by rw [hB k t hk, ho]
  have hKn := hK.1 _ _ hc
  refine W.newcK hC.1 hC.2.1 hC.2.2.2.1 (hts _ hcl) (hts _ hins) (hts _ hini) rfl hd (by omega) (by omega) hKn.2.1 hz fun H1 kC hkC e1 z1 o1 => ?_
  refine W.widen (k := n + 1 - n0) (n := 2000 * (n + 1 - n0)) (by omega) (by omega) ?_
  have hn : va_at wd.1 gh_cls (wd.2.1 k t, gn_ce wd v M k t) H1 := by
    rw [gn_ce_o har, ha]
    refine ⟨_, hc, (u_born (gh_ty (gh_ci k)) hts (gh_in hc) hKn hkC e1 (gh_cl_ok hc).1).to (fun j hj => ?_)⟩
    have hj : j < N := hj
    rw [hdef j hj, ← gn_fresh (wd := wd) hfr hM j]
    unfold vp_V
    rw [List.getD_eq_getElem?_getD, List.getElem?_map, List.getElem?_range (by omega)]
    rfl
  have := k' hC (by omega) (by omega) H1 locs ls (gn_P_push hk ht ho hP (fun q hq => o1 q (by omega)) hn) (by omega) (gn_S_push hS (by omega) (fun q hq => o1 q (by omega))) hL
  rw [List.map_cons] at this
  have e7 : gh_tv wd (vR k t) = .ref (wd.2.2.2 + n) := by show Value.ref (wd.2.1 k t) = _; rw [ha]
  rw [e7] at this
  exact this
-- contracts
def gn_Pc (wd : gh_Wd) (k t n v : Nat) (M : gh_M) : Array Value → State → Prop := fun a U => a = #[Value.ref (wd.2.1 k t)] ∧ va_P wd.1 gh_cls (gn_ws wd n v M) U.heap ∧ U.heap.size = wd.2.2.2 + n ∧ gn_Ok wd U
def gn_Qc (wd : gh_Wd) (n v : Nat) (M : gh_M) : Array Value → State → Outcome → State → Prop := fun _ st o t => (o = .returned none ∧ va_P wd.1 gh_cls (gn_ws wd n v M) t.heap ∧ t.heap.size = wd.2.2.2 + n ∧ gn_Ok wd t) ∧ va_F (gh_A wd) st t
def gn_rm (d j : Nat) : Room := { frames := d, cells := j, slots := 2000 * j, locals := 64 * d }
/-- A MAKER'S CONTRACT: on the object (k, t) it brings the world from n objects, v references to n' and v' -/
def gn_Calls (d : Nat) (mi : gh_MI) (k t n v : Nat) (M : gh_M) (n' v' : Nat) (M' : gh_M) : Prop :=
  ∀ (l : Launch) (wd : gh_Wd), Met l mi.2.1 (gh_wsm mi) (gn_rm d (n' - n)) (gn_Pc wd k t n v M) (gn_Qc wd n' v' M') (n' - n) (2000 * (n' - n)) (gh_A wd)
theorem gn_Ok_warm {wd : gh_Wd} {s U : State} (hW : s.WarmedH U.vm) (hq : ∀ q : Nat, q < s.heap.size → ¬ gh_A wd q → U.heap[q]? = s.heap[q]?) (h : gn_Ok wd s) : gn_Ok wd U :=
  ⟨gh_Ok_warm hW hq h.1, h.2.1, h.2.2.1.moved hW.alike, h.2.2.2.moved hW.alike⟩
theorem gn_blind {wd : gh_Wd} {k t n v : Nat} {M : gh_M} : FrameBlind (gn_Pc wd k t n v M) := fun a U g mk h => by
  obtain ⟨h0, h1, h2, ⟨g1, g2, g3, g4⟩, h4, h5, h6⟩ := h
  refine ⟨h0, h1, h2, ⟨va_K.moved (u := U) (U := U.calling g mk a) (Vm.Alike.refl U.vm) g1, g2, fun w hw hn => gh_Nw_same (s := U) (U := U.calling g mk a) hn rfl (g3 w hw hn), fun i hi => ?_⟩, h4, va_AO.moved (u := U) (U := U.calling g mk a) (Vm.Alike.refl U.vm) h5, va_AO.moved (u := U) (U := U.calling g mk a) (Vm.Alike.refl U.vm) h6⟩
  obtain ⟨z, t⟩ := g4 i hi
  exact ⟨va_Z.moved (u := U) (U := U.calling g mk a) (Vm.Alike.refl U.vm) z, va_T.moved (u := U) (U := U.calling g mk a) (Vm.Alike.refl U.vm) t⟩
def gn_okI (mi : gh_MI) : Prop := gh_mok mi 0 ∧ Cond.instanceMethod mi.2.1 ∈ gh_G ∧ mi.2.1.name = "<init>" ∧ mi.2.2.2.2 = none
theorem gn_call {mi : gh_MI} {d : Nat} {wd : gh_Wd} {x : gh_X} {n v : Nat} {M : gh_M} {pc pc' : Nat} {L : List (Option gh_V)} {S : List gh_V} {mi' : gh_MI} {d' idx k t n' v' : Nat} {M' : gh_M} (hd : gh_at mi pc (.invokespecial idx) 3 pc') (hl : gh_ML mi.1 idx mi'.2.1) (ho : gn_okI mi') (hdd : d' + 1 ≤ d) (hwS : (S.map gh_cat).sum ≤ 8) (hnn : n ≤ n') (hnE : n' ≤ x.2.2.2.2.2.2.2.2.2.2.2.1)
    (hc : gn_Calls d' mi' k t n v M n' v' M') (k' : gn_J mi d wd x n' v' M' pc' L S) : gn_J mi d wd x n v M pc L (vR k t :: S) := by
  obtain ⟨p, l, e, R, s, m, args, below, meth, c, n0, nE, Qf⟩ := x
  obtain ⟨hd, rfl⟩ := hd
  have hnE : n' ≤ nE := hnE
  obtain ⟨own', y', cc', mL', ret'⟩ := mi'
  obtain ⟨ho, hin, hnm, hret⟩ := ho
  have hret : ret' = none := hret
  subst hret
  intro hC h0 hE H locs ls hP hz hS hL
  have hts := hC.2.2.2.2.1
  have rc := hC.2.2.2.2.2.2.2.2.2.2.1
  have rs := hC.2.2.2.2.2.2.2.2.2.2.2.1
  have hpre : PreS s H (gn_Pc wd k t n v M) [.ref (wd.2.1 k t)] := ⟨gn_blind, fun U hU hW => ⟨rfl, by rw [hU]; exact hP, by rw [hU]; exact hz, gn_Ok_warm hW (fun q h1 h2 => by rw [hU]; exact hS.2.1 q h1 h2) hC.2.2.2.2.2.1⟩⟩
  have hroom : (gn_rm d' (n' - n)).frames + 1 ≤ R.frames ∧ 8 + (mL' + 11) + (gn_rm d' (n' - n)).locals ≤ R.locals := by
    have h1 := hC.2.2.2.2.2.2.2.2.1
    have h2 := hC.2.2.2.2.2.2.2.2.2.1
    have h3 : mL' ≤ 40 := ho.2.2.2
    show d' + 1 ≤ R.frames ∧ 8 + (mL' + 11) + 64 * d' ≤ R.locals
    omega
  have hf : n - n0 + (n' - n) ≤ R.cells ∧ 2000 * (n - n0) + 2000 * (n' - n) ≤ R.slots := by omega
  have hwS' : 2 * (F0 m pc ls ((vR k t :: S).map (gh_tv wd))).monitorRoom + ((S.map (gh_tv wd)).map fun v => v.category).sum ≤ 8 := lv_room (by rw [gh_cat_tv]; exact hwS)
  have ec : n - n0 + (n' - n) = n' - n0 := by omega
  have es : 2000 * (n - n0) + 2000 * (n' - n) = 2000 * (n' - n0) := by omega
  have fin : va_Run p l e R s m args below meth c H locs (n - n0) (2000 * (n - n0)) (n' - n) (2000 * (n' - n)) (F0 m pc ls ((vR k t :: S).map (gh_tv wd))) (S.map (gh_tv wd)) (gn_Qc wd n' v' M' [Value.ref (wd.2.1 k t)].toArray) (gh_A wd) → W p l e R s m args below meth c H locs (n - n0) (2000 * (n - n0)) Qf (F0 m pc ls ((vR k t :: S).map (gh_tv wd))) := fun hr => by
    intro T hT X
    obtain ⟨u, st₀, t2, T', LL, hh, X', hLL, e1, e2, ⟨⟨hv, hP1, hz1, hO1⟩, hzz, hkk⟩, st⟩ := hr T hT X
    cases hv
    rw [hh] at hzz hkk
    rw [ec, es] at X'
    obtain ⟨t3, a1, b1⟩ := k' hC (by omega) hnE T'.heap (locs ++ LL) ls (by rw [e1]; exact hP1) (by rw [e1]; exact hz1)
      ⟨Nat.le_trans hS.1 (by rw [e1]; exact hzz), fun q h1 h2 => by rw [e1, hkk q (Nat.lt_of_lt_of_le h1 hS.1) h2]; exact hS.2.1 q h1 h2, fun q hq => by
        rcases List.mem_append.mp hq with h | h
        · exact hS.2.2 q h
        · exact hLL q h⟩ hL T' rfl X'
    exact ⟨t3, st t3 a1, b1⟩
  rcases hl with hl | ⟨host, hl⟩
  · exact fin (va_runI (As := []) (rest := S.map (gh_tv wd)) (n := 0) ⟨hC.1, hC.2.1, hC.2.2.1, hC.2.2.2.1, hts⟩ (hc l wd) ⟨callB_of 0 hts (gh_good ho) rfl rfl rfl (hts _ ho.1) (hts _ hl) ho.2.2.1 hroom, hnm, hts _ hin⟩ hpre rfl rfl hL.1 rfl hwS' hd hf)
  · exact fin (va_runIN (As := []) (rest := S.map (gh_tv wd)) (n := 0) ⟨hC.1, hC.2.1, hC.2.2.1, hC.2.2.2.1, hts⟩ (hc l wd) ⟨va_cnB 0 hts (gh_good ho) rfl rfl rfl (hC.2.2.2.2.2.1.1.2.2.1 _ hl rfl) (hts _ ho.1) ho.2.2.1 hroom, hnm, hts _ hin⟩ hpre rfl rfl hL.1 rfl hwS' hd hf)
def gn_E (wd : gh_Wd) (n0 n' v' : Nat) (M' : gh_M) (x : gh_X) : Prop := x.2.2.2.2.2.2.2.2.2.2.1 = n0 ∧ x.2.2.2.2.2.2.2.2.2.2.2.1 = n' ∧ x.2.2.2.2.2.2.2.2.2.2.2.2 = MQ x.2.2.2.2.2.2.2.1 (gn_Qc wd n' v' M') x.2.2.2.2.2.2.1 x.2.2.2.2.1 (n' - n0) (2000 * (n' - n0)) (gh_A wd)
theorem gn_vret {mi : gh_MI} {d : Nat} {wd : gh_Wd} {x : gh_X} {n0 n' v' : Nat} {M' : gh_M} {pc pc' : Nat} {L : List (Option gh_V)} (hd : gh_at mi pc .return_ 1 pc') (hE : gn_E wd n0 n' v' M' x) (hr : mi.2.2.2.2 = none) : gn_J mi d wd x n' v' M' pc L [] := by
  obtain ⟨p, l, e, R, s, m, args, below, meth, c, n0', nE, Q⟩ := x
  obtain ⟨hd, rfl⟩ := hd
  obtain ⟨e1, e2, e3⟩ := hE
  have e1 : n0' = n0 := e1
  have e2 : nE = n' := e2
  have e3 : Q = MQ below (gn_Qc wd n' v' M') args s (n' - n0) (2000 * (n' - n0)) (gh_A wd) := e3
  subst e1 e2 e3
  intro hC h0 hE H locs ls hP hz hS hL
  have hlocks := hC.2.2.2.2.2.2.1
  exact W.vret hC.1 hC.2.1 (hC.2.2.2.2.2.2.2.1.trans hr) (fun t ht hW => ⟨⟨rfl, by rw [ht]; exact hP, by rw [ht]; exact hz, gn_Ok_warm hW (fun q h1 h2 => by rw [ht]; exact hS.2.1 q h1 h2) hC.2.2.2.2.2.1⟩, hS.F ht⟩) hS.2.2 hd
theorem gn_begin {mi : gh_MI} {d k t n v n' v' : Nat} {M M' : gh_M} (hy : plainName mi.2.1.cls = true) (hown : mi.1 = mi.2.1.cls) (nl : Nat) (hn : 1 + nl = mi.2.2.2.1)
    (h : ∀ (wd : gh_Wd) (x : gh_X), gn_E wd n n' v' M' x → gn_J mi d wd x n v M 0 (some (vR k t) :: List.replicate nl none) []) (hnn : n ≤ n') : gn_Calls d mi k t n v M n' v' M' := by
  intro l wd
  refine Met.ofW (cc := mi.2.2.1) (maxL := mi.2.2.2.1) (ret := mi.2.2.2.2) hy rfl ?_
  intro p e s m args below meth c s₁ B hml hv
  obtain ⟨rfl, hP, hz, hOk⟩ := hv
  have hts := atoms_spec (ws := gh_wsm mi) B.pre
  have hown' : s.vm.findClass mi.1 = some m.cls := by rw [hown]; exact findClass_of_methodNamed B.named
  have hname := (name_of_methodNamed B.named B.method).1
  have hl := lv_entry [Value.ref (wd.2.1 k t)] (n := mi.2.2.2.1) (by show 1 ≤ _; omega)
  have hL : gh_L wd ((lg_sl [Value.ref (wd.2.1 k t)] ++ List.replicate (mi.2.2.2.1 - (lg_sl [Value.ref (wd.2.1 k t)]).length) Slot.unset).toArray) mi.2.2.2.1 (some (vR k t) :: List.replicate nl none) := by
    refine ⟨hl.1, hl.2.1, fun q hq => ?_⟩
    obtain ⟨j, y⟩ := q
    obtain ⟨w, hw, rfl⟩ := gh_pr_mem.mp hq
    have h1 := gh_ent_at wd nl [vR k t] 0 j w hw
    rw [Nat.zero_add] at h1
    exact hl.2.2 _ h1
  have := h wd (p, l, e, (headSpec (gh_wsm mi) (gn_rm d (n' - n))).room, s, m, #[Value.ref (wd.2.1 k t)], below, meth, c, n, n', MQ below (gn_Qc wd n' v' M') #[Value.ref (wd.2.1 k t)] s (n' - n) (2000 * (n' - n)) (gh_A wd)) ⟨rfl, rfl, rfl⟩
    ⟨B.exec, B.bytes, hml, hown', fun w hw => hts w (List.mem_cons_of_mem _ hw), hOk, B.notSynchronized, B.returns, Nat.le_refl _, Nat.le_refl _, Nat.le_refl _, Nat.le_refl _, fun hn => by rw [hname, hn]⟩ (Nat.le_refl _) hnn s.heap [] _ hP hz va_S.rf hL
  rw [Nat.sub_self] at this
  rw [lg_entry_eq]
  exact this
