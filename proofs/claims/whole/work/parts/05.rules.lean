theorem gh_iconst {mi : gh_MI} {d : Nat} {wd : gh_Wd} {x : gh_X} {M : gh_M} {pc pc' : Nat} {L : List (Option gh_V)} {S : List gh_V} {n : Int} {v : Int32} (hd : gh_at mi pc (.iconst n) 1 pc') (hv : Int32.ofInt n = v) (k : gh_J mi d wd x M pc' L (vI v :: S)) : gh_J mi d wd x M pc L (S) := by
  obtain ⟨p, l, e, R, s, m, args, below, meth, c, cells, slots, Q⟩ := x
  obtain ⟨hd, rfl⟩ := hd
  intro hC H locs ls hP hS hL
  exact lv_iconst hC.1 hC.2.1 hd hv (k hC H locs ls hP hS hL)
theorem gh_bipush {mi : gh_MI} {d : Nat} {wd : gh_Wd} {x : gh_X} {M : gh_M} {pc pc' : Nat} {L : List (Option gh_V)} {S : List gh_V} {n : Int} {v : Int32} (hd : gh_at mi pc (.bipush n) 2 pc') (hv : (Int8.ofInt n).toInt32 = v) (k : gh_J mi d wd x M pc' L (vI v :: S)) : gh_J mi d wd x M pc L (S) := by
  obtain ⟨p, l, e, R, s, m, args, below, meth, c, cells, slots, Q⟩ := x
  obtain ⟨hd, rfl⟩ := hd
  intro hC H locs ls hP hS hL
  exact lv_bipush hC.1 hC.2.1 hd hv (k hC H locs ls hP hS hL)
theorem gh_sipush {mi : gh_MI} {d : Nat} {wd : gh_Wd} {x : gh_X} {M : gh_M} {pc pc' : Nat} {L : List (Option gh_V)} {S : List gh_V} {n : Int} {v : Int32} (hd : gh_at mi pc (.sipush n) 3 pc') (hv : (Int16.ofInt n).toInt32 = v) (k : gh_J mi d wd x M pc' L (vI v :: S)) : gh_J mi d wd x M pc L (S) := by
  obtain ⟨p, l, e, R, s, m, args, below, meth, c, cells, slots, Q⟩ := x
  obtain ⟨hd, rfl⟩ := hd
  intro hC H locs ls hP hS hL
  exact lv_sipush hC.1 hC.2.1 hd hv (k hC H locs ls hP hS hL)
theorem gh_lconst {mi : gh_MI} {d : Nat} {wd : gh_Wd} {x : gh_X} {M : gh_M} {pc pc' : Nat} {L : List (Option gh_V)} {S : List gh_V} {n : Fin 2} {v : Int64} (hd : gh_at mi pc (.lconst n) 1 pc') (hv : Int64.ofNat n = v) (k : gh_J mi d wd x M pc' L (vL v :: S)) : gh_J mi d wd x M pc L (S) := by
  obtain ⟨p, l, e, R, s, m, args, below, meth, c, cells, slots, Q⟩ := x
  obtain ⟨hd, rfl⟩ := hd
  intro hC H locs ls hP hS hL
  exact lv_lconst hC.1 hC.2.1 hd hv (k hC H locs ls hP hS hL)
theorem gh_ldc {mi : gh_MI} {d : Nat} {wd : gh_Wd} {x : gh_X} {M : gh_M} {pc pc' : Nat} {L : List (Option gh_V)} {S : List gh_V} {n : Nat} {v : Int32} (hd : gh_at mi pc (.ldc n) 2 pc') (hw : Cond.constant mi.1 n v ∈ gh_G) (k : gh_J mi d wd x M pc' L (vI v :: S)) : gh_J mi d wd x M pc L (S) := by
  obtain ⟨p, l, e, R, s, m, args, below, meth, c, cells, slots, Q⟩ := x
  obtain ⟨hd, rfl⟩ := hd
  intro hC H locs ls hP hS hL
  exact lv_ldc hC.1 hC.2.1 hC.2.2.2.1 (hC.2.2.2.2.1 _ hw) hd (k hC H locs ls hP hS hL)
theorem gh_ldcw {mi : gh_MI} {d : Nat} {wd : gh_Wd} {x : gh_X} {M : gh_M} {pc pc' : Nat} {L : List (Option gh_V)} {S : List gh_V} {n : Nat} {v : Int32} (hd : gh_at mi pc (.ldc_w n) 3 pc') (hw : Cond.constant mi.1 n v ∈ gh_G) (k : gh_J mi d wd x M pc' L (vI v :: S)) : gh_J mi d wd x M pc L (S) := by
  obtain ⟨p, l, e, R, s, m, args, below, meth, c, cells, slots, Q⟩ := x
  obtain ⟨hd, rfl⟩ := hd
  intro hC H locs ls hP hS hL
  exact lv_ldcw hC.1 hC.2.1 hC.2.2.2.1 (hC.2.2.2.2.1 _ hw) hd (k hC H locs ls hP hS hL)
theorem gh_ldc2 {mi : gh_MI} {d : Nat} {wd : gh_Wd} {x : gh_X} {M : gh_M} {pc pc' : Nat} {L : List (Option gh_V)} {S : List gh_V} {n : Nat} {v : Int64} (hd : gh_at mi pc (.ldc2_w n) 3 pc') (hw : Cond.constantLong mi.1 n v ∈ gh_G) (k : gh_J mi d wd x M pc' L (vL v :: S)) : gh_J mi d wd x M pc L (S) := by
  obtain ⟨p, l, e, R, s, m, args, below, meth, c, cells, slots, Q⟩ := x
  obtain ⟨hd, rfl⟩ := hd
  intro hC H locs ls hP hS hL
  exact lv_ldc2 hC.1 hC.2.1 hC.2.2.2.1 (hC.2.2.2.2.1 _ hw) hd (k hC H locs ls hP hS hL)
theorem gh_iload_n {mi : gh_MI} {d : Nat} {wd : gh_Wd} {x : gh_X} {M : gh_M} {pc pc' : Nat} {L : List (Option gh_V)} {S : List gh_V} {i : Fin 4} {v : Int32} (hd : gh_at mi pc (.iload_n i) 1 pc') (hv : L[(i : Nat)]? = some (some (vI v))) (k : gh_J mi d wd x M pc' L (vI v :: S)) : gh_J mi d wd x M pc L (S) := by
  obtain ⟨p, l, e, R, s, m, args, below, meth, c, cells, slots, Q⟩ := x
  obtain ⟨hd, rfl⟩ := hd
  intro hC H locs ls hP hS hL
  exact lv_iload_n hC.1 hC.2.1 hd rfl (gh_L_at hL hv) (k hC H locs ls hP hS hL)
theorem gh_iload {mi : gh_MI} {d : Nat} {wd : gh_Wd} {x : gh_X} {M : gh_M} {pc pc' : Nat} {L : List (Option gh_V)} {S : List gh_V} {i : Nat} {v : Int32} (hd : gh_at mi pc (.iload i) 2 pc') (hv : L[i]? = some (some (vI v))) (k : gh_J mi d wd x M pc' L (vI v :: S)) : gh_J mi d wd x M pc L (S) := by
  obtain ⟨p, l, e, R, s, m, args, below, meth, c, cells, slots, Q⟩ := x
  obtain ⟨hd, rfl⟩ := hd
  intro hC H locs ls hP hS hL
  exact lv_iload hC.1 hC.2.1 hd (gh_L_at hL hv) (k hC H locs ls hP hS hL)
theorem gh_lload_n {mi : gh_MI} {d : Nat} {wd : gh_Wd} {x : gh_X} {M : gh_M} {pc pc' : Nat} {L : List (Option gh_V)} {S : List gh_V} {i : Fin 4} {v : Int64} (hd : gh_at mi pc (.lload_n i) 1 pc') (hv : L[(i : Nat)]? = some (some (vL v))) (k : gh_J mi d wd x M pc' L (vL v :: S)) : gh_J mi d wd x M pc L (S) := by
  obtain ⟨p, l, e, R, s, m, args, below, meth, c, cells, slots, Q⟩ := x
  obtain ⟨hd, rfl⟩ := hd
  intro hC H locs ls hP hS hL
  exact lv_lload_n hC.1 hC.2.1 hd rfl (gh_L_at hL hv) (k hC H locs ls hP hS hL)
theorem gh_lload {mi : gh_MI} {d : Nat} {wd : gh_Wd} {x : gh_X} {M : gh_M} {pc pc' : Nat} {L : List (Option gh_V)} {S : List gh_V} {i : Nat} {v : Int64} (hd : gh_at mi pc (.lload i) 2 pc') (hv : L[i]? = some (some (vL v))) (k : gh_J mi d wd x M pc' L (vL v :: S)) : gh_J mi d wd x M pc L (S) := by
  obtain ⟨p, l, e, R, s, m, args, below, meth, c, cells, slots, Q⟩ := x
  obtain ⟨hd, rfl⟩ := hd
  intro hC H locs ls hP hS hL
  exact lv_lload hC.1 hC.2.1 hd (gh_L_at hL hv) (k hC H locs ls hP hS hL)
theorem gh_aload_n {mi : gh_MI} {d : Nat} {wd : gh_Wd} {x : gh_X} {M : gh_M} {pc pc' : Nat} {L : List (Option gh_V)} {S : List gh_V} {i : Fin 4} {a b : Nat} (hd : gh_at mi pc (.aload_n i) 1 pc') (hv : L[(i : Nat)]? = some (some (vR a b))) (k : gh_J mi d wd x M pc' L (vR a b :: S)) : gh_J mi d wd x M pc L (S) := by
  obtain ⟨p, l, e, R, s, m, args, below, meth, c, cells, slots, Q⟩ := x
  obtain ⟨hd, rfl⟩ := hd
  intro hC H locs ls hP hS hL
  exact lv_aload_n hC.1 hC.2.1 hd rfl (gh_L_at hL hv) (k hC H locs ls hP hS hL)
theorem gh_aload {mi : gh_MI} {d : Nat} {wd : gh_Wd} {x : gh_X} {M : gh_M} {pc pc' : Nat} {L : List (Option gh_V)} {S : List gh_V} {i : Nat} {a b : Nat} (hd : gh_at mi pc (.aload i) 2 pc') (hv : L[i]? = some (some (vR a b))) (k : gh_J mi d wd x M pc' L (vR a b :: S)) : gh_J mi d wd x M pc L (S) := by
  obtain ⟨p, l, e, R, s, m, args, below, meth, c, cells, slots, Q⟩ := x
  obtain ⟨hd, rfl⟩ := hd
  intro hC H locs ls hP hS hL
  exact lv_aload hC.1 hC.2.1 hd (gh_L_at hL hv) (k hC H locs ls hP hS hL)
theorem gh_istore_n {mi : gh_MI} {d : Nat} {wd : gh_Wd} {x : gh_X} {M : gh_M} {pc pc' : Nat} {L : List (Option gh_V)} {S : List gh_V} {i : Fin 4} {v : Int32} {L' : List (Option gh_V)} (hd : gh_at mi pc (.istore_n i) 1 pc') (hn : (i : Nat) < mi.2.2.2.1) (hl : gh_nl L (i : Nat) = true) (hset : L.set (i : Nat) (some (vI v)) = L') (k : gh_J mi d wd x M pc' L' (S)) : gh_J mi d wd x M pc L (vI v :: S) := by
  obtain ⟨p, l, e, R, s, m, args, below, meth, c, cells, slots, Q⟩ := x
  obtain ⟨hd, rfl⟩ := hd
  intro hC H locs ls hP hS hL
  subst hset
  exact lv_istore_n hC.1 hC.2.1 hd rfl hL hn rfl (fun ls' hs => k hC H locs ls' hP hS (gh_L_s1 hL (vI v) hl hs))
theorem gh_istore {mi : gh_MI} {d : Nat} {wd : gh_Wd} {x : gh_X} {M : gh_M} {pc pc' : Nat} {L : List (Option gh_V)} {S : List gh_V} {i : Nat} {v : Int32} {L' : List (Option gh_V)} (hd : gh_at mi pc (.istore i) 2 pc') (hn : i < mi.2.2.2.1) (hl : gh_nl L i = true) (hset : L.set i (some (vI v)) = L') (k : gh_J mi d wd x M pc' L' (S)) : gh_J mi d wd x M pc L (vI v :: S) := by
  obtain ⟨p, l, e, R, s, m, args, below, meth, c, cells, slots, Q⟩ := x
  obtain ⟨hd, rfl⟩ := hd
  intro hC H locs ls hP hS hL
  subst hset
  exact lv_istore hC.1 hC.2.1 hd hL hn rfl (fun ls' hs => k hC H locs ls' hP hS (gh_L_s1 hL (vI v) hl hs))
theorem gh_astore_n {mi : gh_MI} {d : Nat} {wd : gh_Wd} {x : gh_X} {M : gh_M} {pc pc' : Nat} {L : List (Option gh_V)} {S : List gh_V} {i : Fin 4} {v : Nat} {b : Nat} {L' : List (Option gh_V)} (hd : gh_at mi pc (.astore_n i) 1 pc') (hn : (i : Nat) < mi.2.2.2.1) (hl : gh_nl L (i : Nat) = true) (hset : L.set (i : Nat) (some (vR v b)) = L') (k : gh_J mi d wd x M pc' L' (S)) : gh_J mi d wd x M pc L (vR v b :: S) := by
  obtain ⟨p, l, e, R, s, m, args, below, meth, c, cells, slots, Q⟩ := x
  obtain ⟨hd, rfl⟩ := hd
  intro hC H locs ls hP hS hL
  subst hset
  exact lv_astore_n hC.1 hC.2.1 hd rfl hL hn rfl (fun ls' hs => k hC H locs ls' hP hS (gh_L_s1 hL (vR v b) hl hs))
theorem gh_astore {mi : gh_MI} {d : Nat} {wd : gh_Wd} {x : gh_X} {M : gh_M} {pc pc' : Nat} {L : List (Option gh_V)} {S : List gh_V} {i : Nat} {v : Nat} {b : Nat} {L' : List (Option gh_V)} (hd : gh_at mi pc (.astore i) 2 pc') (hn : i < mi.2.2.2.1) (hl : gh_nl L i = true) (hset : L.set i (some (vR v b)) = L') (k : gh_J mi d wd x M pc' L' (S)) : gh_J mi d wd x M pc L (vR v b :: S) := by
  obtain ⟨p, l, e, R, s, m, args, below, meth, c, cells, slots, Q⟩ := x
  obtain ⟨hd, rfl⟩ := hd
  intro hC H locs ls hP hS hL
  subst hset
  exact lv_astore hC.1 hC.2.1 hd hL hn rfl (fun ls' hs => k hC H locs ls' hP hS (gh_L_s1 hL (vR v b) hl hs))
theorem gh_lstore_n {mi : gh_MI} {d : Nat} {wd : gh_Wd} {x : gh_X} {M : gh_M} {pc pc' : Nat} {L : List (Option gh_V)} {S : List gh_V} {i : Fin 4} {v : Int64} {L' : List (Option gh_V)} (hd : gh_at mi pc (.lstore_n i) 1 pc') (hn : (i : Nat) + 1 < mi.2.2.2.1) (hl : gh_nl L (i : Nat) = true) (hset : (L.set (i : Nat) (some (vL v))).set ((i : Nat) + 1) none = L') (k : gh_J mi d wd x M pc' L' (S)) : gh_J mi d wd x M pc L (vL v :: S) := by
  obtain ⟨p, l, e, R, s, m, args, below, meth, c, cells, slots, Q⟩ := x
  obtain ⟨hd, rfl⟩ := hd
  intro hC H locs ls hP hS hL
  subst hset
  exact lv_lstore_n hC.1 hC.2.1 hd rfl hL hn rfl (fun ls' hs => k hC H locs ls' hP hS (gh_L_s2 hL (vL v) hl hs))
theorem gh_lstore {mi : gh_MI} {d : Nat} {wd : gh_Wd} {x : gh_X} {M : gh_M} {pc pc' : Nat} {L : List (Option gh_V)} {S : List gh_V} {i : Nat} {v : Int64} {L' : List (Option gh_V)} (hd : gh_at mi pc (.lstore i) 2 pc') (hn : i + 1 < mi.2.2.2.1) (hl : gh_nl L i = true) (hset : (L.set i (some (vL v))).set (i + 1) none = L') (k : gh_J mi d wd x M pc' L' (S)) : gh_J mi d wd x M pc L (vL v :: S) := by
  obtain ⟨p, l, e, R, s, m, args, below, meth, c, cells, slots, Q⟩ := x
  obtain ⟨hd, rfl⟩ := hd
  intro hC H locs ls hP hS hL
  subst hset
  exact lv_lstore hC.1 hC.2.1 hd hL hn rfl (fun ls' hs => k hC H locs ls' hP hS (gh_L_s2 hL (vL v) hl hs))
theorem gh_iinc {mi : gh_MI} {d : Nat} {wd : gh_Wd} {x : gh_X} {M : gh_M} {pc pc' : Nat} {L : List (Option gh_V)} {S : List gh_V} {i : Nat} {n : Int} {u v : Int32} {L' : List (Option gh_V)} (hd : gh_at mi pc (.iinc i n) 3 pc') (hu : L[i]? = some (some (vI u))) (hv : u + Int32.ofInt n = v) (hn : i < mi.2.2.2.1) (hl : gh_nl L i = true) (hset : L.set i (some (vI v)) = L') (k : gh_J mi d wd x M pc' L' (S)) : gh_J mi d wd x M pc L (S) := by
  obtain ⟨p, l, e, R, s, m, args, below, meth, c, cells, slots, Q⟩ := x
  obtain ⟨hd, rfl⟩ := hd
  intro hC H locs ls hP hS hL
  subst hset
  obtain ⟨j, hj⟩ := List.getElem?_of_mem (gh_pr_mem.mpr ⟨vI u, hu, rfl⟩ : (i, gh_tv wd (vI u)) ∈ gh_pr wd L)
  exact lv_iinc hC.1 hC.2.1 hd hL hj hv hn rfl (fun ls' hs => k hC H locs ls' hP hS (gh_L_s1 hL (vI v) hl hs))
theorem gh_iadd {mi : gh_MI} {d : Nat} {wd : gh_Wd} {x : gh_X} {M : gh_M} {pc pc' : Nat} {L : List (Option gh_V)} {S : List gh_V} {a b : Int32} (hd : gh_at mi pc (.iadd) 1 pc')  (k : gh_J mi d wd x M pc' L (vI (a + b) :: S)) : gh_J mi d wd x M pc L (vI b :: vI a :: S) := by
  obtain ⟨p, l, e, R, s, m, args, below, meth, c, cells, slots, Q⟩ := x
  obtain ⟨hd, rfl⟩ := hd
  intro hC H locs ls hP hS hL
  exact lv_iadd hC.1 hC.2.1 hd (k hC H locs ls hP hS hL)
theorem gh_isub {mi : gh_MI} {d : Nat} {wd : gh_Wd} {x : gh_X} {M : gh_M} {pc pc' : Nat} {L : List (Option gh_V)} {S : List gh_V} {a b : Int32} (hd : gh_at mi pc (.isub) 1 pc')  (k : gh_J mi d wd x M pc' L (vI (a - b) :: S)) : gh_J mi d wd x M pc L (vI b :: vI a :: S) := by
  obtain ⟨p, l, e, R, s, m, args, below, meth, c, cells, slots, Q⟩ := x
  obtain ⟨hd, rfl⟩ := hd
  intro hC H locs ls hP hS hL
  exact lv_isub hC.1 hC.2.1 hd (k hC H locs ls hP hS hL)
theorem gh_imul {mi : gh_MI} {d : Nat} {wd : gh_Wd} {x : gh_X} {M : gh_M} {pc pc' : Nat} {L : List (Option gh_V)} {S : List gh_V} {a b : Int32} (hd : gh_at mi pc (.imul) 1 pc')  (k : gh_J mi d wd x M pc' L (vI (a * b) :: S)) : gh_J mi d wd x M pc L (vI b :: vI a :: S) := by
  obtain ⟨p, l, e, R, s, m, args, below, meth, c, cells, slots, Q⟩ := x
  obtain ⟨hd, rfl⟩ := hd
  intro hC H locs ls hP hS hL
  exact lv_imul hC.1 hC.2.1 hd (k hC H locs ls hP hS hL)
theorem gh_iand {mi : gh_MI} {d : Nat} {wd : gh_Wd} {x : gh_X} {M : gh_M} {pc pc' : Nat} {L : List (Option gh_V)} {S : List gh_V} {a b : Int32} (hd : gh_at mi pc (.iand) 1 pc')  (k : gh_J mi d wd x M pc' L (vI (a &&& b) :: S)) : gh_J mi d wd x M pc L (vI b :: vI a :: S) := by
  obtain ⟨p, l, e, R, s, m, args, below, meth, c, cells, slots, Q⟩ := x
  obtain ⟨hd, rfl⟩ := hd
  intro hC H locs ls hP hS hL
  exact lv_iand hC.1 hC.2.1 hd (k hC H locs ls hP hS hL)
theorem gh_ior {mi : gh_MI} {d : Nat} {wd : gh_Wd} {x : gh_X} {M : gh_M} {pc pc' : Nat} {L : List (Option gh_V)} {S : List gh_V} {a b : Int32} (hd : gh_at mi pc (.ior) 1 pc')  (k : gh_J mi d wd x M pc' L (vI (a ||| b) :: S)) : gh_J mi d wd x M pc L (vI b :: vI a :: S) := by
  obtain ⟨p, l, e, R, s, m, args, below, meth, c, cells, slots, Q⟩ := x
  obtain ⟨hd, rfl⟩ := hd
  intro hC H locs ls hP hS hL
  exact lv_ior hC.1 hC.2.1 hd (k hC H locs ls hP hS hL)
theorem gh_ixor {mi : gh_MI} {d : Nat} {wd : gh_Wd} {x : gh_X} {M : gh_M} {pc pc' : Nat} {L : List (Option gh_V)} {S : List gh_V} {a b : Int32} (hd : gh_at mi pc (.ixor) 1 pc')  (k : gh_J mi d wd x M pc' L (vI (a ^^^ b) :: S)) : gh_J mi d wd x M pc L (vI b :: vI a :: S) := by
  obtain ⟨p, l, e, R, s, m, args, below, meth, c, cells, slots, Q⟩ := x
  obtain ⟨hd, rfl⟩ := hd
  intro hC H locs ls hP hS hL
  exact lv_ixor hC.1 hC.2.1 hd (k hC H locs ls hP hS hL)
theorem gh_ishl {mi : gh_MI} {d : Nat} {wd : gh_Wd} {x : gh_X} {M : gh_M} {pc pc' : Nat} {L : List (Option gh_V)} {S : List gh_V} {a b : Int32} (hd : gh_at mi pc (.ishl) 1 pc')  (k : gh_J mi d wd x M pc' L (vI (a <<< (b &&& 31)) :: S)) : gh_J mi d wd x M pc L (vI b :: vI a :: S) := by
  obtain ⟨p, l, e, R, s, m, args, below, meth, c, cells, slots, Q⟩ := x
  obtain ⟨hd, rfl⟩ := hd
  intro hC H locs ls hP hS hL
  exact lv_ishl hC.1 hC.2.1 hd (k hC H locs ls hP hS hL)
theorem gh_ishr {mi : gh_MI} {d : Nat} {wd : gh_Wd} {x : gh_X} {M : gh_M} {pc pc' : Nat} {L : List (Option gh_V)} {S : List gh_V} {a b : Int32} (hd : gh_at mi pc (.ishr) 1 pc')  (k : gh_J mi d wd x M pc' L (vI (a >>> (b &&& 31)) :: S)) : gh_J mi d wd x M pc L (vI b :: vI a :: S) := by
  obtain ⟨p, l, e, R, s, m, args, below, meth, c, cells, slots, Q⟩ := x
  obtain ⟨hd, rfl⟩ := hd
  intro hC H locs ls hP hS hL
  exact lv_ishr hC.1 hC.2.1 hd (k hC H locs ls hP hS hL)
theorem gh_idiv {mi : gh_MI} {d : Nat} {wd : gh_Wd} {x : gh_X} {M : gh_M} {pc pc' : Nat} {L : List (Option gh_V)} {S : List gh_V} {a b : Int32} (hd : gh_at mi pc (.idiv) 1 pc') (hne : ¬ b = 0) (k : gh_J mi d wd x M pc' L (vI (a / b) :: S)) : gh_J mi d wd x M pc L (vI b :: vI a :: S) := by
  obtain ⟨p, l, e, R, s, m, args, below, meth, c, cells, slots, Q⟩ := x
  obtain ⟨hd, rfl⟩ := hd
  intro hC H locs ls hP hS hL
  exact lv_idiv hC.1 hC.2.1 hd hne (k hC H locs ls hP hS hL)
theorem gh_irem {mi : gh_MI} {d : Nat} {wd : gh_Wd} {x : gh_X} {M : gh_M} {pc pc' : Nat} {L : List (Option gh_V)} {S : List gh_V} {a b : Int32} (hd : gh_at mi pc (.irem) 1 pc') (hne : ¬ b = 0) (k : gh_J mi d wd x M pc' L (vI (a - a / b * b) :: S)) : gh_J mi d wd x M pc L (vI b :: vI a :: S) := by
  obtain ⟨p, l, e, R, s, m, args, below, meth, c, cells, slots, Q⟩ := x
  obtain ⟨hd, rfl⟩ := hd
  intro hC H locs ls hP hS hL
  exact lv_irem hC.1 hC.2.1 hd hne (k hC H locs ls hP hS hL)
theorem gh_iushr {mi : gh_MI} {d : Nat} {wd : gh_Wd} {x : gh_X} {M : gh_M} {pc pc' : Nat} {L : List (Option gh_V)} {S : List gh_V} {a b : Int32} (hd : gh_at mi pc (.iushr) 1 pc')  (k : gh_J mi d wd x M pc' L (vI (a.toUInt32 >>> (b.toUInt32 &&& Int32.toUInt32 31)).toInt32 :: S)) : gh_J mi d wd x M pc L (vI b :: vI a :: S) := by
  obtain ⟨p, l, e, R, s, m, args, below, meth, c, cells, slots, Q⟩ := x
  obtain ⟨hd, rfl⟩ := hd
  intro hC H locs ls hP hS hL
  exact lv_iushr hC.1 hC.2.1 hd rfl (k hC H locs ls hP hS hL)
theorem gh_ineg {mi : gh_MI} {d : Nat} {wd : gh_Wd} {x : gh_X} {M : gh_M} {pc pc' : Nat} {L : List (Option gh_V)} {S : List gh_V} {a : Int32} (hd : gh_at mi pc (.ineg) 1 pc')  (k : gh_J mi d wd x M pc' L (vI (-a) :: S)) : gh_J mi d wd x M pc L (vI a :: S) := by
  obtain ⟨p, l, e, R, s, m, args, below, meth, c, cells, slots, Q⟩ := x
  obtain ⟨hd, rfl⟩ := hd
  intro hC H locs ls hP hS hL
  exact lv_ineg hC.1 hC.2.1 hd (k hC H locs ls hP hS hL)
theorem gh_ladd {mi : gh_MI} {d : Nat} {wd : gh_Wd} {x : gh_X} {M : gh_M} {pc pc' : Nat} {L : List (Option gh_V)} {S : List gh_V} {a b : Int64} (hd : gh_at mi pc (.ladd) 1 pc')  (k : gh_J mi d wd x M pc' L (vL (a + b) :: S)) : gh_J mi d wd x M pc L (vL b :: vL a :: S) := by
  obtain ⟨p, l, e, R, s, m, args, below, meth, c, cells, slots, Q⟩ := x
  obtain ⟨hd, rfl⟩ := hd
  intro hC H locs ls hP hS hL
  exact lv_ladd hC.1 hC.2.1 hd (k hC H locs ls hP hS hL)
theorem gh_lsub {mi : gh_MI} {d : Nat} {wd : gh_Wd} {x : gh_X} {M : gh_M} {pc pc' : Nat} {L : List (Option gh_V)} {S : List gh_V} {a b : Int64} (hd : gh_at mi pc (.lsub) 1 pc')  (k : gh_J mi d wd x M pc' L (vL (a - b) :: S)) : gh_J mi d wd x M pc L (vL b :: vL a :: S) := by
  obtain ⟨p, l, e, R, s, m, args, below, meth, c, cells, slots, Q⟩ := x
  obtain ⟨hd, rfl⟩ := hd
  intro hC H locs ls hP hS hL
  exact lv_lsub hC.1 hC.2.1 hd (k hC H locs ls hP hS hL)
theorem gh_lmul {mi : gh_MI} {d : Nat} {wd : gh_Wd} {x : gh_X} {M : gh_M} {pc pc' : Nat} {L : List (Option gh_V)} {S : List gh_V} {a b : Int64} (hd : gh_at mi pc (.lmul) 1 pc')  (k : gh_J mi d wd x M pc' L (vL (a * b) :: S)) : gh_J mi d wd x M pc L (vL b :: vL a :: S) := by
  obtain ⟨p, l, e, R, s, m, args, below, meth, c, cells, slots, Q⟩ := x
  obtain ⟨hd, rfl⟩ := hd
  intro hC H locs ls hP hS hL
  exact lv_lmul hC.1 hC.2.1 hd (k hC H locs ls hP hS hL)
theorem gh_ldiv {mi : gh_MI} {d : Nat} {wd : gh_Wd} {x : gh_X} {M : gh_M} {pc pc' : Nat} {L : List (Option gh_V)} {S : List gh_V} {a b : Int64} (hd : gh_at mi pc (.ldiv) 1 pc') (hne : ¬ b = 0) (k : gh_J mi d wd x M pc' L (vL (a / b) :: S)) : gh_J mi d wd x M pc L (vL b :: vL a :: S) := by
  obtain ⟨p, l, e, R, s, m, args, below, meth, c, cells, slots, Q⟩ := x
  obtain ⟨hd, rfl⟩ := hd
  intro hC H locs ls hP hS hL
  exact lv_ldiv hC.1 hC.2.1 hd hne (k hC H locs ls hP hS hL)
theorem gh_lrem {mi : gh_MI} {d : Nat} {wd : gh_Wd} {x : gh_X} {M : gh_M} {pc pc' : Nat} {L : List (Option gh_V)} {S : List gh_V} {a b : Int64} (hd : gh_at mi pc (.lrem) 1 pc') (hne : ¬ b = 0) (k : gh_J mi d wd x M pc' L (vL (a - a / b * b) :: S)) : gh_J mi d wd x M pc L (vL b :: vL a :: S) := by
  obtain ⟨p, l, e, R, s, m, args, below, meth, c, cells, slots, Q⟩ := x
  obtain ⟨hd, rfl⟩ := hd
  intro hC H locs ls hP hS hL
  exact lv_lrem hC.1 hC.2.1 hd hne (k hC H locs ls hP hS hL)
theorem gh_lcmp {mi : gh_MI} {d : Nat} {wd : gh_Wd} {x : gh_X} {M : gh_M} {pc pc' : Nat} {L : List (Option gh_V)} {S : List gh_V} {a b : Int64} (hd : gh_at mi pc (.lcmp) 1 pc')  (k : gh_J mi d wd x M pc' L (vI (lg_cmp a b) :: S)) : gh_J mi d wd x M pc L (vL b :: vL a :: S) := by
  obtain ⟨p, l, e, R, s, m, args, below, meth, c, cells, slots, Q⟩ := x
  obtain ⟨hd, rfl⟩ := hd
  intro hC H locs ls hP hS hL
  exact W.lcmp hC.1 hC.2.1 hd (k hC H locs ls hP hS hL)
theorem gh_i2l {mi : gh_MI} {d : Nat} {wd : gh_Wd} {x : gh_X} {M : gh_M} {pc pc' : Nat} {L : List (Option gh_V)} {S : List gh_V} {a : Int32} (hd : gh_at mi pc (.i2l) 1 pc')  (k : gh_J mi d wd x M pc' L (vL a.toInt64 :: S)) : gh_J mi d wd x M pc L (vI a :: S) := by
  obtain ⟨p, l, e, R, s, m, args, below, meth, c, cells, slots, Q⟩ := x
  obtain ⟨hd, rfl⟩ := hd
  intro hC H locs ls hP hS hL
  exact lv_i2l hC.1 hC.2.1 hd rfl (k hC H locs ls hP hS hL)
theorem gh_l2i {mi : gh_MI} {d : Nat} {wd : gh_Wd} {x : gh_X} {M : gh_M} {pc pc' : Nat} {L : List (Option gh_V)} {S : List gh_V} {a : Int64} (hd : gh_at mi pc (.l2i) 1 pc')  (k : gh_J mi d wd x M pc' L (vI a.toInt32 :: S)) : gh_J mi d wd x M pc L (vL a :: S) := by
  obtain ⟨p, l, e, R, s, m, args, below, meth, c, cells, slots, Q⟩ := x
  obtain ⟨hd, rfl⟩ := hd
  intro hC H locs ls hP hS hL
  exact lv_l2i hC.1 hC.2.1 hd rfl (k hC H locs ls hP hS hL)
theorem gh_i2b {mi : gh_MI} {d : Nat} {wd : gh_Wd} {x : gh_X} {M : gh_M} {pc pc' : Nat} {L : List (Option gh_V)} {S : List gh_V} {a : Int32} (hd : gh_at mi pc (.i2b) 1 pc')  (k : gh_J mi d wd x M pc' L (vI a.toInt8.toInt32 :: S)) : gh_J mi d wd x M pc L (vI a :: S) := by
  obtain ⟨p, l, e, R, s, m, args, below, meth, c, cells, slots, Q⟩ := x
  obtain ⟨hd, rfl⟩ := hd
  intro hC H locs ls hP hS hL
  exact lv_i2b hC.1 hC.2.1 hd rfl (k hC H locs ls hP hS hL)
theorem gh_i2s {mi : gh_MI} {d : Nat} {wd : gh_Wd} {x : gh_X} {M : gh_M} {pc pc' : Nat} {L : List (Option gh_V)} {S : List gh_V} {a : Int32} (hd : gh_at mi pc (.i2s) 1 pc')  (k : gh_J mi d wd x M pc' L (vI a.toInt16.toInt32 :: S)) : gh_J mi d wd x M pc L (vI a :: S) := by
  obtain ⟨p, l, e, R, s, m, args, below, meth, c, cells, slots, Q⟩ := x
  obtain ⟨hd, rfl⟩ := hd
  intro hC H locs ls hP hS hL
  exact lv_i2s hC.1 hC.2.1 hd rfl (k hC H locs ls hP hS hL)
theorem gh_dupI {mi : gh_MI} {d : Nat} {wd : gh_Wd} {x : gh_X} {M : gh_M} {pc pc' : Nat} {L : List (Option gh_V)} {S : List gh_V} {a : Int32} (hd : gh_at mi pc (.dup) 1 pc')  (k : gh_J mi d wd x M pc' L (vI a :: vI a :: S)) : gh_J mi d wd x M pc L (vI a :: S) := by
  obtain ⟨p, l, e, R, s, m, args, below, meth, c, cells, slots, Q⟩ := x
  obtain ⟨hd, rfl⟩ := hd
  intro hC H locs ls hP hS hL
  exact lv_dup hC.1 hC.2.1 hd rfl (k hC H locs ls hP hS hL)
theorem gh_dupR {mi : gh_MI} {d : Nat} {wd : gh_Wd} {x : gh_X} {M : gh_M} {pc pc' : Nat} {L : List (Option gh_V)} {S : List gh_V} {a b : Nat} (hd : gh_at mi pc (.dup) 1 pc')  (k : gh_J mi d wd x M pc' L (vR a b :: vR a b :: S)) : gh_J mi d wd x M pc L (vR a b :: S) := by
  obtain ⟨p, l, e, R, s, m, args, below, meth, c, cells, slots, Q⟩ := x
  obtain ⟨hd, rfl⟩ := hd
  intro hC H locs ls hP hS hL
  exact lv_dup hC.1 hC.2.1 hd rfl (k hC H locs ls hP hS hL)
theorem gh_dup2 {mi : gh_MI} {d : Nat} {wd : gh_Wd} {x : gh_X} {M : gh_M} {pc pc' : Nat} {L : List (Option gh_V)} {S : List gh_V} {a : Int32} {u v : Nat} (hd : gh_at mi pc (.dup2) 1 pc')  (k : gh_J mi d wd x M pc' L (vI a :: vR u v :: vI a :: vR u v :: S)) : gh_J mi d wd x M pc L (vI a :: vR u v :: S) := by
  obtain ⟨p, l, e, R, s, m, args, below, meth, c, cells, slots, Q⟩ := x
  obtain ⟨hd, rfl⟩ := hd
  intro hC H locs ls hP hS hL
  exact lv_dup2_11 hC.1 hC.2.1 hd rfl rfl (k hC H locs ls hP hS hL)
theorem gh_popI {mi : gh_MI} {d : Nat} {wd : gh_Wd} {x : gh_X} {M : gh_M} {pc pc' : Nat} {L : List (Option gh_V)} {S : List gh_V} {a : Int32} (hd : gh_at mi pc (.pop) 1 pc')  (k : gh_J mi d wd x M pc' L (S)) : gh_J mi d wd x M pc L (vI a :: S) := by
  obtain ⟨p, l, e, R, s, m, args, below, meth, c, cells, slots, Q⟩ := x
  obtain ⟨hd, rfl⟩ := hd
  intro hC H locs ls hP hS hL
  exact lv_pop hC.1 hC.2.1 hd rfl (k hC H locs ls hP hS hL)
theorem gh_if_eq {mi : gh_MI} {d : Nat} {wd : gh_Wd} {x : gh_X} {M : gh_M} {pc pc' : Nat} {L : List (Option gh_V)} {S : List gh_V} {a : Int32} {off : Int} {tgt : Nat} (hd : gh_at mi pc (.ifCond .eq off) 3 pc') (ht : (pc : Int) + off = (tgt : Int)) (kt : a = 0 → gh_J mi d wd x M tgt L (S)) (kf : ¬ a = 0 → gh_J mi d wd x M pc' L (S)) : gh_J mi d wd x M pc L (vI a :: S) := by
  obtain ⟨p, l, e, R, s, m, args, below, meth, c, cells, slots, Q⟩ := x
  obtain ⟨hd, rfl⟩ := hd
  intro hC H locs ls hP hS hL
  exact lv_if_eq hC.1 hC.2.1 hd ht (fun h => kt h hC H locs ls hP hS hL) (fun h => kf h hC H locs ls hP hS hL)
theorem gh_if_ne {mi : gh_MI} {d : Nat} {wd : gh_Wd} {x : gh_X} {M : gh_M} {pc pc' : Nat} {L : List (Option gh_V)} {S : List gh_V} {a : Int32} {off : Int} {tgt : Nat} (hd : gh_at mi pc (.ifCond .ne off) 3 pc') (ht : (pc : Int) + off = (tgt : Int)) (kt : ¬ a = 0 → gh_J mi d wd x M tgt L (S)) (kf : a = 0 → gh_J mi d wd x M pc' L (S)) : gh_J mi d wd x M pc L (vI a :: S) := by
  obtain ⟨p, l, e, R, s, m, args, below, meth, c, cells, slots, Q⟩ := x
  obtain ⟨hd, rfl⟩ := hd
  intro hC H locs ls hP hS hL
  exact lv_if_ne hC.1 hC.2.1 hd ht (fun h => kt h hC H locs ls hP hS hL) (fun h => kf h hC H locs ls hP hS hL)
theorem gh_if_lt {mi : gh_MI} {d : Nat} {wd : gh_Wd} {x : gh_X} {M : gh_M} {pc pc' : Nat} {L : List (Option gh_V)} {S : List gh_V} {a : Int32} {off : Int} {tgt : Nat} (hd : gh_at mi pc (.ifCond .lt off) 3 pc') (ht : (pc : Int) + off = (tgt : Int)) (kt : a < 0 → gh_J mi d wd x M tgt L (S)) (kf : ¬ a < 0 → gh_J mi d wd x M pc' L (S)) : gh_J mi d wd x M pc L (vI a :: S) := by
  obtain ⟨p, l, e, R, s, m, args, below, meth, c, cells, slots, Q⟩ := x
  obtain ⟨hd, rfl⟩ := hd
  intro hC H locs ls hP hS hL
  exact lv_if_lt hC.1 hC.2.1 hd ht (fun h => kt h hC H locs ls hP hS hL) (fun h => kf h hC H locs ls hP hS hL)
theorem gh_if_ge {mi : gh_MI} {d : Nat} {wd : gh_Wd} {x : gh_X} {M : gh_M} {pc pc' : Nat} {L : List (Option gh_V)} {S : List gh_V} {a : Int32} {off : Int} {tgt : Nat} (hd : gh_at mi pc (.ifCond .ge off) 3 pc') (ht : (pc : Int) + off = (tgt : Int)) (kt : 0 ≤ a → gh_J mi d wd x M tgt L (S)) (kf : ¬ 0 ≤ a → gh_J mi d wd x M pc' L (S)) : gh_J mi d wd x M pc L (vI a :: S) := by
  obtain ⟨p, l, e, R, s, m, args, below, meth, c, cells, slots, Q⟩ := x
  obtain ⟨hd, rfl⟩ := hd
  intro hC H locs ls hP hS hL
  exact lv_if_ge hC.1 hC.2.1 hd ht (fun h => kt h hC H locs ls hP hS hL) (fun h => kf h hC H locs ls hP hS hL)
theorem gh_if_gt {mi : gh_MI} {d : Nat} {wd : gh_Wd} {x : gh_X} {M : gh_M} {pc pc' : Nat} {L : List (Option gh_V)} {S : List gh_V} {a : Int32} {off : Int} {tgt : Nat} (hd : gh_at mi pc (.ifCond .gt off) 3 pc') (ht : (pc : Int) + off = (tgt : Int)) (kt : 0 < a → gh_J mi d wd x M tgt L (S)) (kf : ¬ 0 < a → gh_J mi d wd x M pc' L (S)) : gh_J mi d wd x M pc L (vI a :: S) := by
  obtain ⟨p, l, e, R, s, m, args, below, meth, c, cells, slots, Q⟩ := x
  obtain ⟨hd, rfl⟩ := hd
  intro hC H locs ls hP hS hL
  exact lv_if_gt hC.1 hC.2.1 hd ht (fun h => kt h hC H locs ls hP hS hL) (fun h => kf h hC H locs ls hP hS hL)
theorem gh_if_le {mi : gh_MI} {d : Nat} {wd : gh_Wd} {x : gh_X} {M : gh_M} {pc pc' : Nat} {L : List (Option gh_V)} {S : List gh_V} {a : Int32} {off : Int} {tgt : Nat} (hd : gh_at mi pc (.ifCond .le off) 3 pc') (ht : (pc : Int) + off = (tgt : Int)) (kt : a ≤ 0 → gh_J mi d wd x M tgt L (S)) (kf : ¬ a ≤ 0 → gh_J mi d wd x M pc' L (S)) : gh_J mi d wd x M pc L (vI a :: S) := by
  obtain ⟨p, l, e, R, s, m, args, below, meth, c, cells, slots, Q⟩ := x
  obtain ⟨hd, rfl⟩ := hd
  intro hC H locs ls hP hS hL
  exact lv_if_le hC.1 hC.2.1 hd ht (fun h => kt h hC H locs ls hP hS hL) (fun h => kf h hC H locs ls hP hS hL)
theorem gh_icmp_eq {mi : gh_MI} {d : Nat} {wd : gh_Wd} {x : gh_X} {M : gh_M} {pc pc' : Nat} {L : List (Option gh_V)} {S : List gh_V} {a b : Int32} {off : Int} {tgt : Nat} (hd : gh_at mi pc (.if_icmp .eq off) 3 pc') (ht : (pc : Int) + off = (tgt : Int)) (kt : a = b → gh_J mi d wd x M tgt L (S)) (kf : ¬ a = b → gh_J mi d wd x M pc' L (S)) : gh_J mi d wd x M pc L (vI b :: vI a :: S) := by
  obtain ⟨p, l, e, R, s, m, args, below, meth, c, cells, slots, Q⟩ := x
  obtain ⟨hd, rfl⟩ := hd
  intro hC H locs ls hP hS hL
  exact lv_icmp_eq hC.1 hC.2.1 hd ht (fun h => kt h hC H locs ls hP hS hL) (fun h => kf h hC H locs ls hP hS hL)
theorem gh_icmp_ne {mi : gh_MI} {d : Nat} {wd : gh_Wd} {x : gh_X} {M : gh_M} {pc pc' : Nat} {L : List (Option gh_V)} {S : List gh_V} {a b : Int32} {off : Int} {tgt : Nat} (hd : gh_at mi pc (.if_icmp .ne off) 3 pc') (ht : (pc : Int) + off = (tgt : Int)) (kt : ¬ a = b → gh_J mi d wd x M tgt L (S)) (kf : a = b → gh_J mi d wd x M pc' L (S)) : gh_J mi d wd x M pc L (vI b :: vI a :: S) := by
  obtain ⟨p, l, e, R, s, m, args, below, meth, c, cells, slots, Q⟩ := x
  obtain ⟨hd, rfl⟩ := hd
  intro hC H locs ls hP hS hL
  exact lv_icmp_ne hC.1 hC.2.1 hd ht (fun h => kt h hC H locs ls hP hS hL) (fun h => kf h hC H locs ls hP hS hL)
theorem gh_icmp_lt {mi : gh_MI} {d : Nat} {wd : gh_Wd} {x : gh_X} {M : gh_M} {pc pc' : Nat} {L : List (Option gh_V)} {S : List gh_V} {a b : Int32} {off : Int} {tgt : Nat} (hd : gh_at mi pc (.if_icmp .lt off) 3 pc') (ht : (pc : Int) + off = (tgt : Int)) (kt : a < b → gh_J mi d wd x M tgt L (S)) (kf : ¬ a < b → gh_J mi d wd x M pc' L (S)) : gh_J mi d wd x M pc L (vI b :: vI a :: S) := by
  obtain ⟨p, l, e, R, s, m, args, below, meth, c, cells, slots, Q⟩ := x
  obtain ⟨hd, rfl⟩ := hd
  intro hC H locs ls hP hS hL
  exact lv_icmp_lt hC.1 hC.2.1 hd ht (fun h => kt h hC H locs ls hP hS hL) (fun h => kf h hC H locs ls hP hS hL)
theorem gh_icmp_ge {mi : gh_MI} {d : Nat} {wd : gh_Wd} {x : gh_X} {M : gh_M} {pc pc' : Nat} {L : List (Option gh_V)} {S : List gh_V} {a b : Int32} {off : Int} {tgt : Nat} (hd : gh_at mi pc (.if_icmp .ge off) 3 pc') (ht : (pc : Int) + off = (tgt : Int)) (kt : b ≤ a → gh_J mi d wd x M tgt L (S)) (kf : ¬ b ≤ a → gh_J mi d wd x M pc' L (S)) : gh_J mi d wd x M pc L (vI b :: vI a :: S) := by
  obtain ⟨p, l, e, R, s, m, args, below, meth, c, cells, slots, Q⟩ := x
  obtain ⟨hd, rfl⟩ := hd
  intro hC H locs ls hP hS hL
  exact lv_icmp_ge hC.1 hC.2.1 hd ht (fun h => kt h hC H locs ls hP hS hL) (fun h => kf h hC H locs ls hP hS hL)
theorem gh_icmp_gt {mi : gh_MI} {d : Nat} {wd : gh_Wd} {x : gh_X} {M : gh_M} {pc pc' : Nat} {L : List (Option gh_V)} {S : List gh_V} {a b : Int32} {off : Int} {tgt : Nat} (hd : gh_at mi pc (.if_icmp .gt off) 3 pc') (ht : (pc : Int) + off = (tgt : Int)) (kt : b < a → gh_J mi d wd x M tgt L (S)) (kf : ¬ b < a → gh_J mi d wd x M pc' L (S)) : gh_J mi d wd x M pc L (vI b :: vI a :: S) := by
  obtain ⟨p, l, e, R, s, m, args, below, meth, c, cells, slots, Q⟩ := x
  obtain ⟨hd, rfl⟩ := hd
  intro hC H locs ls hP hS hL
  exact lv_icmp_gt hC.1 hC.2.1 hd ht (fun h => kt h hC H locs ls hP hS hL) (fun h => kf h hC H locs ls hP hS hL)
theorem gh_icmp_le {mi : gh_MI} {d : Nat} {wd : gh_Wd} {x : gh_X} {M : gh_M} {pc pc' : Nat} {L : List (Option gh_V)} {S : List gh_V} {a b : Int32} {off : Int} {tgt : Nat} (hd : gh_at mi pc (.if_icmp .le off) 3 pc') (ht : (pc : Int) + off = (tgt : Int)) (kt : a ≤ b → gh_J mi d wd x M tgt L (S)) (kf : ¬ a ≤ b → gh_J mi d wd x M pc' L (S)) : gh_J mi d wd x M pc L (vI b :: vI a :: S) := by
  obtain ⟨p, l, e, R, s, m, args, below, meth, c, cells, slots, Q⟩ := x
  obtain ⟨hd, rfl⟩ := hd
  intro hC H locs ls hP hS hL
  exact lv_icmp_le hC.1 hC.2.1 hd ht (fun h => kt h hC H locs ls hP hS hL) (fun h => kf h hC H locs ls hP hS hL)
theorem gh_goto {mi : gh_MI} {d : Nat} {wd : gh_Wd} {x : gh_X} {M : gh_M} {pc pc' : Nat} {L : List (Option gh_V)} {S : List gh_V} {off : Int} {tgt : Nat} (hd : gh_at mi pc (.goto off) 3 pc') (ht : (pc : Int) + off = (tgt : Int)) (k : gh_J mi d wd x M tgt L (S)) : gh_J mi d wd x M pc L (S) := by
  obtain ⟨p, l, e, R, s, m, args, below, meth, c, cells, slots, Q⟩ := x
  obtain ⟨hd, rfl⟩ := hd
  intro hC H locs ls hP hS hL
  exact lv_goto hC.1 hC.2.1 hd ht (k hC H locs ls hP hS hL)
theorem gh_tabIn {mi : gh_MI} {d : Nat} {wd : gh_Wd} {x : gh_X} {M : gh_M} {pc pc' : Nat} {L : List (Option gh_V)} {S : List gh_V} {a v : Int32} {dflt lo hi : Int} {offs : Array Int} {n : Nat} {off : Int} {tgt : Nat} (hd : gh_at mi pc (.tableswitch dflt lo hi offs) n pc') (ha : a = v) (h1 : ¬ v.toInt < lo) (h2 : ¬ hi < v.toInt) (ho : offs[(v.toInt - lo).toNat]? = some off) (ht : (pc : Int) + off = (tgt : Int)) (k : gh_J mi d wd x M tgt L (S)) : gh_J mi d wd x M pc L (vI a :: S) := by
  obtain ⟨p, l, e, R, s, m, args, below, meth, c, cells, slots, Q⟩ := x
  obtain ⟨hd, rfl⟩ := hd
  intro hC H locs ls hP hS hL
  subst ha
  exact lv_tableIn hC.1 hC.2.1 hd h1 h2 ho ht (k hC H locs ls hP hS hL)
theorem gh_tabOut {mi : gh_MI} {d : Nat} {wd : gh_Wd} {x : gh_X} {M : gh_M} {pc pc' : Nat} {L : List (Option gh_V)} {S : List gh_V} {a : Int32} {dflt lo hi : Int} {offs : Array Int} {n : Nat} {tgt : Nat} (hd : gh_at mi pc (.tableswitch dflt lo hi offs) n pc') (h : a.toInt < lo ∨ hi < a.toInt) (ht : (pc : Int) + dflt = (tgt : Int)) (k : gh_J mi d wd x M tgt L (S)) : gh_J mi d wd x M pc L (vI a :: S) := by
  obtain ⟨p, l, e, R, s, m, args, below, meth, c, cells, slots, Q⟩ := x
  obtain ⟨hd, rfl⟩ := hd
  intro hC H locs ls hP hS hL
  exact lv_tableOut hC.1 hC.2.1 hd h ht (k hC H locs ls hP hS hL)
theorem gh_lookup {mi : gh_MI} {d : Nat} {wd : gh_Wd} {x : gh_X} {M : gh_M} {pc pc' : Nat} {L : List (Option gh_V)} {S : List gh_V} {a : Int32} {dflt : Int} {ps : Array (Int × Int)} {n : Nat} {off : Int} {tgt : Nat} (hd : gh_at mi pc (.lookupswitch dflt ps) n pc') (hp : (ps.toList.zip (ps.toList.drop 1)).all (fun (a, next) => a.1 < next.1) = true) (ho : Op.lookupswitch.offset ps.toList dflt a.toInt = off) (ht : (pc : Int) + off = (tgt : Int)) (k : gh_J mi d wd x M tgt L (S)) : gh_J mi d wd x M pc L (vI a :: S) := by
  obtain ⟨p, l, e, R, s, m, args, below, meth, c, cells, slots, Q⟩ := x
  obtain ⟨hd, rfl⟩ := hd
  intro hC H locs ls hP hS hL
  exact lv_lookup hC.1 hC.2.1 hd hp ho ht (k hC H locs ls hP hS hL)
theorem gh_cl_ok : ∀ {ci : Nat} {C : String} {T : u_T} {N : Nat}, gh_cls[ci]? = some (C, T, N) → (∀ k, k < N → parseFieldDescriptor (T k).2.2.1 = some (gh_ty ci k)) ∧ (∀ a, a < N → ∀ b, b < N → a ≠ b → (T a).2.1 ≠ (T b).2.1) := by
  intro ci C T N h
  match ci, h with
  | 0, h => cases h; exact ⟨tyX0_ok, nmX0⟩
  | 1, h => cases h; exact ⟨tyX1_ok, nmX1⟩
  | 2, h => cases h; exact ⟨tyX2_ok, nmX2⟩
  | 3, h => cases h; exact ⟨tyX3_ok, nmX3⟩
  | 4, h => cases h; exact ⟨tyX4_ok, nmX4⟩
  | 5, h => cases h; exact ⟨tyX5_ok, nmX5⟩
  | 6, h => cases h; exact ⟨tyX6_ok, nmX6⟩
  | 7, h => cases h; exact ⟨tyX7_ok, nmX7⟩
  | n + 8, h => simp [gh_cls] at h
set_option maxRecDepth 100000 in
theorem gh_in_all : ∀ r ∈ gh_cls, (u_ws r.1 r.2.1 r.2.2).all (fun w => decide (w ∈ lw_tbl) && goodWord w) = true := by decide +kernel
theorem gh_in {ci : Nat} {C : String} {T : u_T} {N : Nat} (h : gh_cls[ci]? = some (C, T, N)) : ∀ w ∈ u_ws C T N, w ∈ gh_G := by
  intro w hw
  have h1 := List.all_eq_true.mp (gh_in_all (C, T, N) (List.mem_of_getElem? h)) w hw
  simp only [Bool.and_eq_true, decide_eq_true_eq] at h1
  exact List.mem_filter.mpr h1
theorem gh_getI {mi : gh_MI} {d : Nat} {wd : gh_Wd} {x : gh_X} {M : gh_M} {pc pc' : Nat} {L : List (Option gh_V)} {S : List gh_V} {idx k t j : Nat} (hd : gh_at mi pc (.getfield idx) 3 pc') (hf : gh_FL mi.1 idx (gh_ci k) j) (hk : k < 45) (ht : t < gh_cnt k) (ho : gh_ar k = none) (hfl : (gh_fl k t)[j]? = some none) (k' : gh_J mi d wd x M pc' L (vI (M k t j) :: S)) : gh_J mi d wd x M pc L (vR k t :: S) := by
  obtain ⟨p, l, e, R, s, m, args, below, meth, c, cells, slots, Q⟩ := x
  obtain ⟨hd, rfl⟩ := hd
  intro hC H locs ls hP hS hL
  obtain ⟨q0, hq⟩ := gh_mem hk ht
  have he : (gh_ws wd M)[q0]? = some (wd.2.1 k t, .inr (gh_ci k, (List.range (gh_fl k t).length).map (gh_fv wd M k t))) := by rw [gh_ws_at wd M hq, gh_ce_o wd M t ho]
  obtain ⟨C, T, N, hc, hj, hlink⟩ := hf
  have hv : gh_fv wd M k t j = .int (M k t j) := by unfold gh_fv; rw [hfl]
  have hg := gh_fs_at wd M hfl
  rw [hv] at hg
  rcases hlink with hlink | ⟨host, hlink⟩
  · exact va_get hC.1 hC.2.1 hC.2.2.2.2.1 (gh_in hc) hC.2.2.2.1 hC.2.2.2.2.2.1.1 hP q0 he hc j hj (hC.2.2.2.2.1 _ hlink) (fun _ h9 => h9) hg hd (k' hC H locs ls hP hS hL)
  · exact va_getN hC.1 hC.2.1 hC.2.2.2.2.1 (gh_in hc) hC.2.2.2.1 hC.2.2.2.2.2.1.1 hP q0 he hc j hj (va_Nw.use rfl (hC.2.2.2.2.2.1.2.2.1 _ hlink rfl)) (fun _ h9 => h9) hg hd (k' hC H locs ls hP hS hL)
theorem gh_getR {mi : gh_MI} {d : Nat} {wd : gh_Wd} {x : gh_X} {M : gh_M} {pc pc' : Nat} {L : List (Option gh_V)} {S : List gh_V} {idx k t j a b : Nat} (hd : gh_at mi pc (.getfield idx) 3 pc') (hf : gh_FL mi.1 idx (gh_ci k) j) (hk : k < 45) (ht : t < gh_cnt k) (ho : gh_ar k = none) (hfl : (gh_fl k t)[j]? = some (some (a, b))) (k' : gh_J mi d wd x M pc' L (vR a b :: S)) : gh_J mi d wd x M pc L (vR k t :: S) := by
  obtain ⟨p, l, e, R, s, m, args, below, meth, c, cells, slots, Q⟩ := x
  obtain ⟨hd, rfl⟩ := hd
  intro hC H locs ls hP hS hL
  obtain ⟨q0, hq⟩ := gh_mem hk ht
  have he : (gh_ws wd M)[q0]? = some (wd.2.1 k t, .inr (gh_ci k, (List.range (gh_fl k t).length).map (gh_fv wd M k t))) := by rw [gh_ws_at wd M hq, gh_ce_o wd M t ho]
  obtain ⟨C, T, N, hc, hj, hlink⟩ := hf
  have hv : gh_fv wd M k t j = .ref (wd.2.1 a b) := by unfold gh_fv; rw [hfl]
  have hg := gh_fs_at wd M hfl
  rw [hv] at hg
  rcases hlink with hlink | ⟨host, hlink⟩
  · exact va_get hC.1 hC.2.1 hC.2.2.2.2.1 (gh_in hc) hC.2.2.2.1 hC.2.2.2.2.2.1.1 hP q0 he hc j hj (hC.2.2.2.2.1 _ hlink) (fun _ h9 => h9) hg hd (k' hC H locs ls hP hS hL)
  · exact va_getN hC.1 hC.2.1 hC.2.2.2.2.1 (gh_in hc) hC.2.2.2.1 hC.2.2.2.2.2.1.1 hP q0 he hc j hj (va_Nw.use rfl (hC.2.2.2.2.2.1.2.2.1 _ hlink rfl)) (fun _ h9 => h9) hg hd (k' hC H locs ls hP hS hL)
theorem gh_put {mi : gh_MI} {d : Nat} {wd : gh_Wd} {x : gh_X} {M : gh_M} {pc pc' : Nat} {L : List (Option gh_V)} {S : List gh_V} {idx k t j : Nat} {v : Int32} (hd : gh_at mi pc (.putfield idx) 3 pc') (hf : gh_FL mi.1 idx (gh_ci k) j) (hk : k < 45) (ht : t < gh_cnt k) (ho : gh_ar k = none) (hfl : (gh_fl k t)[j]? = some none) (hfin : ∀ r, gh_cls[gh_ci k]? = some r → (r.2.1 j).2.2.2 = false) (hn : narrow (gh_ty (gh_ci k) j) (.int v) = .int v) (hfit : fits (gh_ty (gh_ci k) j) (.int v) = true) (k' : gh_J mi d wd x (gh_st M k t j v) pc' L (S)) : gh_J mi d wd x M pc L (vI v :: vR k t :: S) := by
  obtain ⟨p, l, e, R, s, m, args, below, meth, c, cells, slots, Q⟩ := x
  obtain ⟨hd, rfl⟩ := hd
  intro hC H locs ls hP hS hL
  obtain ⟨q0, hq⟩ := gh_mem hk ht
  have he : (gh_ws wd M)[q0]? = some (wd.2.1 k t, .inr (gh_ci k, (List.range (gh_fl k t).length).map (gh_fv wd M k t))) := by rw [gh_ws_at wd M hq, gh_ce_o wd M t ho]
  obtain ⟨C, T, N, hc, hj, hlink⟩ := hf
  have hD := gh_D_any M hC.2.2.2.2.2.1.2.1
  have hl : j < ((List.range (gh_fl k t).length).map (gh_fv wd M k t)).length := by simp; exact (List.getElem?_eq_some_iff.mp hfl).1
  have e1 : gh_ce wd (gh_st M k t j v) k t = .inr (gh_ci k, ((List.range (gh_fl k t).length).map (gh_fv wd M k t)).set j (.int v)) := by rw [gh_ce_o wd _ t ho, gh_fs_set wd M v hfl]
  have e2 := gh_set hD hq (upd (M k t) j v) e1
  have kk : ∀ (H1 : Heap) (locs1 : List Loc), va_P wd.1 gh_cls ((gh_ws wd M).set q0 (wd.2.1 k t, .inr (gh_ci k, ((List.range (gh_fl k t).length).map (gh_fv wd M k t)).set j (.int v)))) H1 → va_D (gh_A wd) ((gh_ws wd M).set q0 (wd.2.1 k t, .inr (gh_ci k, ((List.range (gh_fl k t).length).map (gh_fv wd M k t)).set j (.int v)))) → va_S (gh_A wd) s.heap H1 locs1 → W p l e R s m args below meth c H1 locs1 cells slots Q (F0 m (pc + 3) ls (S.map (gh_tv wd))) := fun H1 locs1 hP1 _ hS1 => by
    rw [e2] at hP1
    exact k' hC H1 locs1 ls hP1 hS1 hL
  have hfn : (T j).2.2.2 = false := hfin _ hc
  obtain ⟨hty, hnm⟩ := gh_cl_ok hc
  rcases hlink with hlink | ⟨host, hlink⟩
  · exact va_put hC.1 hC.2.1 hC.2.2.2.2.1 (gh_in hc) (gh_ty (gh_ci k)) hty hnm hC.2.2.2.1 hC.2.2.2.2.2.1.1 hP hD hS q0 he hc j hj (hC.2.2.2.2.1 _ hlink) (fun _ h9 => h9) hfn (hty j hj) hn hfit hl hd kk
  · exact va_putN hC.1 hC.2.1 hC.2.2.2.2.1 (gh_in hc) (gh_ty (gh_ci k)) hty hnm hC.2.2.2.1 hC.2.2.2.2.2.1.1 hP hD hS q0 he hc j hj (va_Nw.use rfl (hC.2.2.2.2.2.1.2.2.1 _ hlink rfl)) (fun _ h9 => h9) hfn (hty j hj) hn hfit hl hd kk
theorem gh_iald {mi : gh_MI} {d : Nat} {wd : gh_Wd} {x : gh_X} {M : gh_M} {pc pc' : Nat} {L : List (Option gh_V)} {S : List gh_V} {k t n : Nat} {i : Int32} (hd : gh_at mi pc (.iaload) 1 pc') (ha : gh_ar k = some (0, n)) (hk : k < 45) (ht : t < gh_cnt k) (hi : vp_in i n) (k' : gh_J mi d wd x M pc' L (vI (M k t i.toNatClampNeg) :: S)) : gh_J mi d wd x M pc L (vI i :: vR k t :: S) := by
  obtain ⟨p, l, e, R, s, m, args, below, meth, c, cells, slots, Q⟩ := x
  obtain ⟨hd, rfl⟩ := hd
  intro hC H locs ls hP hS hL
  obtain ⟨q0, hq⟩ := gh_mem hk ht
  have he := gh_ws_at wd M hq
  rw [gh_ce_i wd M t ha] at he
  exact va_iald hC.1 hC.2.1 hC.2.2.2.2.2.1.1 hP q0 0 he rfl hi hd (k' hC H locs ls hP hS hL)
theorem gh_zald {mi : gh_MI} {d : Nat} {wd : gh_Wd} {x : gh_X} {M : gh_M} {pc pc' : Nat} {L : List (Option gh_V)} {S : List gh_V} {k t n : Nat} {i : Int32} (hd : gh_at mi pc (.baload) 1 pc') (ha : gh_ar k = some (1, n)) (hk : k < 45) (ht : t < gh_cnt k) (hi : vp_in i n) (k' : gh_J mi d wd x M pc' L (vI (M k t i.toNatClampNeg) :: S)) : gh_J mi d wd x M pc L (vI i :: vR k t :: S) := by
  obtain ⟨p, l, e, R, s, m, args, below, meth, c, cells, slots, Q⟩ := x
  obtain ⟨hd, rfl⟩ := hd
  intro hC H locs ls hP hS hL
  obtain ⟨q0, hq⟩ := gh_mem hk ht
  have he := gh_ws_at wd M hq
  rw [gh_ce_z wd M t ha] at he
  exact va_zald hC.1 hC.2.1 hC.2.2.2.2.2.1.1 hP q0 1 he rfl hi hd (k' hC H locs ls hP hS hL)
theorem gh_iast {mi : gh_MI} {d : Nat} {wd : gh_Wd} {x : gh_X} {M : gh_M} {pc pc' : Nat} {L : List (Option gh_V)} {S : List gh_V} {k t n : Nat} {i v : Int32} (hd : gh_at mi pc (.iastore) 1 pc') (ha : gh_ar k = some (0, n)) (hk : k < 45) (ht : t < gh_cnt k) (hi : vp_in i n) (k' : gh_J mi d wd x (gh_st M k t i.toNatClampNeg v) pc' L (S)) : gh_J mi d wd x M pc L (vI v :: vI i :: vR k t :: S) := by
  obtain ⟨p, l, e, R, s, m, args, below, meth, c, cells, slots, Q⟩ := x
  obtain ⟨hd, rfl⟩ := hd
  intro hC H locs ls hP hS hL
  obtain ⟨q0, hq⟩ := gh_mem hk ht
  have he := gh_ws_at wd M hq
  rw [gh_ce_i wd M t ha] at he
  have hD := gh_D_any M hC.2.2.2.2.2.1.2.1
  have e1 : gh_ce wd (gh_row M k t (upd (M k t) i.toNatClampNeg v)) k t = .inl (wd.2.2.1 0, n, .inl (upd (M k t) i.toNatClampNeg v)) := by rw [gh_ce_i wd _ t ha, gh_row_self]
  have e2 := gh_set hD hq _ e1
  exact va_iast hC.1 hC.2.1 hC.2.2.2.2.2.1.1 hP hD hS q0 0 he rfl hi hd (fun H1 locs1 hP1 _ hS1 => k' hC H1 locs1 ls (by rw [← show (gh_ws wd M).set q0 _ = gh_ws wd (gh_st M k t i.toNatClampNeg v) from e2]; exact hP1) hS1 hL)
theorem gh_zast {mi : gh_MI} {d : Nat} {wd : gh_Wd} {x : gh_X} {M : gh_M} {pc pc' : Nat} {L : List (Option gh_V)} {S : List gh_V} {k t n : Nat} {i v : Int32} (hd : gh_at mi pc (.bastore) 1 pc') (ha : gh_ar k = some (1, n)) (hk : k < 45) (ht : t < gh_cnt k) (hi : vp_in i n) (k' : gh_J mi d wd x (gh_st M k t i.toNatClampNeg (v &&& 1)) pc' L (S)) : gh_J mi d wd x M pc L (vI v :: vI i :: vR k t :: S) := by
  obtain ⟨p, l, e, R, s, m, args, below, meth, c, cells, slots, Q⟩ := x
  obtain ⟨hd, rfl⟩ := hd
  intro hC H locs ls hP hS hL
  obtain ⟨q0, hq⟩ := gh_mem hk ht
  have he := gh_ws_at wd M hq
  rw [gh_ce_z wd M t ha] at he
  have hD := gh_D_any M hC.2.2.2.2.2.1.2.1
  have e1 : gh_ce wd (gh_row M k t (upd (M k t) i.toNatClampNeg (v &&& 1))) k t = .inl (wd.2.2.1 1, n, .inl (upd (M k t) i.toNatClampNeg (v &&& 1))) := by rw [gh_ce_z wd _ t ha, gh_row_self]
  have e2 := gh_set hD hq _ e1
  exact va_zast hC.1 hC.2.1 hC.2.2.2.2.2.1.1 hP hD hS q0 1 he rfl hi hd (fun H1 locs1 hP1 _ hS1 => k' hC H1 locs1 ls (by rw [← show (gh_ws wd M).set q0 _ = gh_ws wd (gh_st M k t i.toNatClampNeg (v &&& 1)) from e2]; exact hP1) hS1 hL)
theorem gh_aald {mi : gh_MI} {d : Nat} {wd : gh_Wd} {x : gh_X} {M : gh_M} {pc pc' : Nat} {L : List (Option gh_V)} {S : List gh_V} {k t n a u v : Nat} {i : Int32} (hd : gh_at mi pc (.aaload) 1 pc') (ha : gh_ar k = some (a + 2, n)) (ha2 : a < 2) (hk : k < 45) (ht : t < gh_cnt k) (hi : vp_in i n) (he0 : gh_el k i.toNatClampNeg = (u, v)) (k' : gh_J mi d wd x M pc' L (vR u v :: S)) : gh_J mi d wd x M pc L (vI i :: vR k t :: S) := by
  obtain ⟨p, l, e, R, s, m, args, below, meth, c, cells, slots, Q⟩ := x
  obtain ⟨hd, rfl⟩ := hd
  intro hC H locs ls hP hS hL
  obtain ⟨q0, hq⟩ := gh_mem hk ht
  have he := gh_ws_at wd M hq
  rw [gh_ce_r wd M t ha] at he
  have hq2 : ∃ C, (gh_tys wd)[a + 2]? = some (wd.2.2.1 (a + 2), .object C) := by
    match a, ha2 with
    | 0, _ => exact ⟨RX3, rfl⟩
    | 1, _ => exact ⟨RX5, rfl⟩
  obtain ⟨C, hC2⟩ := hq2
  refine va_aldq hC.1 hC.2.1 hC.2.2.2.2.2.1.1 hP q0 (a + 2) he hC2 hi hd ?_
  rw [he0]
  exact k' hC H locs ls hP hS hL
theorem gh_alen {mi : gh_MI} {d : Nat} {wd : gh_Wd} {x : gh_X} {M : gh_M} {pc pc' : Nat} {L : List (Option gh_V)} {S : List gh_V} {k t n : Nat} (hd : gh_at mi pc (.arraylength) 1 pc') (ha : gh_ar k = some (0, n)) (hk : k < 45) (ht : t < gh_cnt k) (k' : gh_J mi d wd x M pc' L (vI (nI n) :: S)) : gh_J mi d wd x M pc L (vR k t :: S) := by
  obtain ⟨p, l, e, R, s, m, args, below, meth, c, cells, slots, Q⟩ := x
  obtain ⟨hd, rfl⟩ := hd
  intro hC H locs ls hP hS hL
  obtain ⟨q0, hq⟩ := gh_mem hk ht
  have he := gh_ws_at wd M hq
  rw [gh_ce_i wd M t ha] at he
  exact va_alen hC.1 hC.2.1 hC.2.2.2.2.2.1.1 hP q0 0 he rfl rfl hd (k' hC H locs ls hP hS hL)
theorem gh_gets {mi : gh_MI} {d : Nat} {wd : gh_Wd} {x : gh_X} {M : gh_M} {pc pc' : Nat} {L : List (Option gh_V)} {S : List gh_V} {idx i : Nat} (hd : gh_at mi pc (.getstatic idx) 3 pc') (hi : i < 3) (hw : Cond.fieldLink mi.1 idx RX1 (gh_sn i) "[I" ∈ gh_G) (k' : gh_J mi d wd x M pc' L (vR (60 + i) 0 :: S)) : gh_J mi d wd x M pc L (S) := by
  obtain ⟨p, l, e, R, s, m, args, below, meth, c, cells, slots, Q⟩ := x
  obtain ⟨hd, rfl⟩ := hd
  intro hC H locs ls hP hS hL
  exact va_gets hC.1 hC.2.1 (hC.2.2.2.2.2.1.2.2.2 i hi).1 hS hC.2.2.2.1 (hC.2.2.2.2.1 _ hw) (fun _ h9 => h9) hd (k' hC H locs ls hP hS hL)
theorem gh_tald {mi : gh_MI} {d : Nat} {wd : gh_Wd} {x : gh_X} {M : gh_M} {pc pc' : Nat} {L : List (Option gh_V)} {S : List gh_V} {i : Nat} {a : Int32} (hd : gh_at mi pc (.iaload) 1 pc') (hi : i < 3) (ha : vp_in a 6) (k' : gh_J mi d wd x M pc' L (vI (gh_tab i a.toNatClampNeg) :: S)) : gh_J mi d wd x M pc L (vI a :: vR (60 + i) 0 :: S) := by
  obtain ⟨p, l, e, R, s, m, args, below, meth, c, cells, slots, Q⟩ := x
  obtain ⟨hd, rfl⟩ := hd
  intro hC H locs ls hP hS hL
  exact va_ti hC.1 hC.2.1 (hC.2.2.2.2.2.1.2.2.2 i hi).2 hS ha rfl hd (k' hC H locs ls hP hS hL)
theorem gh_drop {mi : gh_MI} {d : Nat} {wd : gh_Wd} {x : gh_X} {M : gh_M} {pc pc' : Nat} {L : List (Option gh_V)} {S : List gh_V} (L' : List (Option gh_V)) (h : gh_le L' L) (k : gh_J mi d wd x M pc L' S) : gh_J mi d wd x M pc L S := by
  obtain ⟨p, l, e, R, s, m, args, below, meth, c, cells, slots, Q⟩ := x
  intro hC H locs ls hP hS hL
  exact k hC H locs ls hP hS (gh_L_le h hL)
