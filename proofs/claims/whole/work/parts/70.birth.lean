-- BIRTH: the world while it is made: n objects are there, v references are set, in the order of the run
def ordT (t : Nat) : Nat := if t = 0 then 4 else if t = 1 then 19 else if t < 26 then 36 + 15 * (t - 2) else if t < 28 then 436 + 15 * (t - 26) else 398
def odr (k t : Nat) : Nat := match k with
  | 0 => 0 | 1 => 1 | 2 => 420 + 2 * t | 3 => 421 + 2 * t | 4 => 2 | 5 => 3 | 21 => 34 | 22 => 35 | 23 => 396 | 24 => 397 | 25 => 413 | 26 => 414 | 27 => 415 | 28 => 416 | 29 => 417 | 30 => 418 | 31 => 419
  | k => if k ≤ 20 then ordT t + (k - 6) else 434 + k
def evT (t : Nat) : Nat := if t = 0 then 3 else if t = 1 then 18 else if t < 26 then 34 + 15 * (t - 2) else if t < 28 then 435 + 15 * (t - 26) else 396
def evn (k t : Nat) : Nat := match k with
  | 1 => 0 | 5 => 1 | 4 => 2 | 22 => 33 | 21 => 394 | 23 => 395 | 25 => 411 | 26 => 412 | 27 => 413 | 28 => 414 | 29 => 415 | 24 => 416 | 31 => 417 | 30 => 418
  | 3 => if t < 8 then 419 + 2 * t else 0
  | 2 => if t < 8 then 420 + 2 * t else 0
  | 6 => evT t + 14
  | k => if k ≤ 20 then evT t + (k - 7) else if k ≤ 44 then 432 + k else 0
theorem evT_lt (t : Nat) : evT t ≤ 450 := by
  unfold evT
  repeat' split
  all_goals omega
theorem evn_lt (k t : Nat) : evn k t < 477 := by
  have := evT_lt t
  unfold evn
  split
  all_goals (first | omega | (repeat' split) <;> omega)
def gh_trn (t : Nat) : List (Nat × Nat) := (List.range 15).map (fun j => (6 + j, t))
def gh_ord : List (Nat × Nat) := [(0, 0), (1, 0), (4, 0), (5, 0)] ++ (gh_trn 0 ++ (gh_trn 1 ++ ([(21, 0), (22, 0)] ++ ((List.range 24).flatMap (fun i => gh_trn (2 + i)) ++ ([(23, 0), (24, 0)] ++ (gh_trn 28 ++ ([(25, 0), (26, 0), (27, 0), (28, 0), (29, 0), (30, 0), (31, 0)] ++ ((List.range 8).flatMap (fun i => [(2, i), (3, i)]) ++ (gh_trn 26 ++ (gh_trn 27 ++ (List.range 13).map (fun j => (32 + j, 0))))))))))))
def gh_par : List (Nat × Nat × Nat) := [(0, 0, 0), (4, 0, 0), (0, 0, 1), (6, 0, 5), (6, 0, 6), (6, 0, 7), (6, 0, 8), (6, 0, 9), (6, 0, 10), (6, 0, 11), (6, 0, 12), (6, 0, 13), (6, 0, 14), (6, 0, 15), (6, 0, 16), (6, 0, 17), (6, 0, 18), (0, 0, 2), (6, 1, 5), (6, 1, 6), (6, 1, 7), (6, 1, 8), (6, 1, 9), (6, 1, 10), (6, 1, 11), (6, 1, 12), (6, 1, 13), (6, 1, 14), (6, 1, 15), (6, 1, 16), (6, 1, 17), (6, 1, 18), (0, 0, 3), (21, 0, 0), (6, 2, 5), (6, 2, 6), (6, 2, 7), (6, 2, 8), (6, 2, 9), (6, 2, 10), (6, 2, 11), (6, 2, 12), (6, 2, 13), (6, 2, 14), (6, 2, 15), (6, 2, 16), (6, 2, 17), (6, 2, 18), (22, 0, 0), (6, 3, 5), (6, 3, 6), (6, 3, 7), (6, 3, 8), (6, 3, 9), (6, 3, 10), (6, 3, 11), (6, 3, 12), (6, 3, 13), (6, 3, 14), (6, 3, 15), (6, 3, 16), (6, 3, 17), (6, 3, 18), (22, 0, 1), (6, 4, 5), (6, 4, 6), (6, 4, 7), (6, 4, 8), (6, 4, 9), (6, 4, 10), (6, 4, 11), (6, 4, 12), (6, 4, 13), (6, 4, 14), (6, 4, 15), (6, 4, 16), (6, 4, 17), (6, 4, 18), (22, 0, 2), (6, 5, 5), (6, 5, 6), (6, 5, 7), (6, 5, 8), (6, 5, 9), (6, 5, 10), (6, 5, 11), (6, 5, 12), (6, 5, 13), (6, 5, 14), (6, 5, 15), (6, 5, 16), (6, 5, 17), (6, 5, 18), (22, 0, 3), (6, 6, 5), (6, 6, 6), (6, 6, 7), (6, 6, 8), (6, 6, 9), (6, 6, 10), (6, 6, 11), (6, 6, 12), (6, 6, 13), (6, 6, 14), (6, 6, 15), (6, 6, 16), (6, 6, 17), (6, 6, 18), (22, 0, 4), (6, 7, 5), (6, 7, 6), (6, 7, 7), (6, 7, 8), (6, 7, 9), (6, 7, 10), (6, 7, 11), (6, 7, 12), (6, 7, 13), (6, 7, 14), (6, 7, 15), (6, 7, 16), (6, 7, 17), (6, 7, 18), (22, 0, 5), (6, 8, 5), (6, 8, 6), (6, 8, 7), (6, 8, 8), (6, 8, 9), (6, 8, 10), (6, 8, 11), (6, 8, 12), (6, 8, 13), (6, 8, 14), (6, 8, 15), (6, 8, 16), (6, 8, 17), (6, 8, 18), (22, 0, 6), (6, 9, 5), (6, 9, 6), (6, 9, 7), (6, 9, 8), (6, 9, 9), (6, 9, 10), (6, 9, 11), (6, 9, 12), (6, 9, 13), (6, 9, 14), (6, 9, 15), (6, 9, 16), (6, 9, 17), (6, 9, 18), (22, 0, 7), (6, 10, 5), (6, 10, 6), (6, 10, 7), (6, 10, 8), (6, 10, 9), (6, 10, 10), (6, 10, 11), (6, 10, 12), (6, 10, 13), (6, 10, 14), (6, 10, 15), (6, 10, 16), (6, 10, 17), (6, 10, 18), (22, 0, 8), (6, 11, 5), (6, 11, 6), (6, 11, 7), (6, 11, 8), (6, 11, 9), (6, 11, 10), (6, 11, 11), (6, 11, 12), (6, 11, 13), (6, 11, 14), (6, 11, 15), (6, 11, 16), (6, 11, 17), (6, 11, 18), (22, 0, 9), (6, 12, 5), (6, 12, 6), (6, 12, 7), (6, 12, 8), (6, 12, 9), (6, 12, 10), (6, 12, 11), (6, 12, 12), (6, 12, 13), (6, 12, 14), (6, 12, 15), (6, 12, 16), (6, 12, 17), (6, 12, 18), (22, 0, 10), (6, 13, 5), (6, 13, 6), (6, 13, 7), (6, 13, 8), (6, 13, 9), (6, 13, 10), (6, 13, 11), (6, 13, 12), (6, 13, 13), (6, 13, 14), (6, 13, 15), (6, 13, 16), (6, 13, 17), (6, 13, 18), (22, 0, 11), (6, 14, 5), (6, 14, 6), (6, 14, 7), (6, 14, 8), (6, 14, 9), (6, 14, 10), (6, 14, 11), (6, 14, 12), (6, 14, 13), (6, 14, 14), (6, 14, 15), (6, 14, 16), (6, 14, 17), (6, 14, 18), (22, 0, 12), (6, 15, 5), (6, 15, 6), (6, 15, 7), (6, 15, 8), (6, 15, 9), (6, 15, 10), (6, 15, 11), (6, 15, 12), (6, 15, 13), (6, 15, 14), (6, 15, 15), (6, 15, 16), (6, 15, 17), (6, 15, 18), (22, 0, 13), (6, 16, 5), (6, 16, 6), (6, 16, 7), (6, 16, 8), (6, 16, 9), (6, 16, 10), (6, 16, 11), (6, 16, 12), (6, 16, 13), (6, 16, 14), (6, 16, 15), (6, 16, 16), (6, 16, 17), (6, 16, 18), (22, 0, 14), (6, 17, 5), (6, 17, 6), (6, 17, 7), (6, 17, 8), (6, 17, 9), (6, 17, 10), (6, 17, 11), (6, 17, 12), (6, 17, 13), (6, 17, 14), (6, 17, 15), (6, 17, 16), (6, 17, 17), (6, 17, 18), (22, 0, 15), (6, 18, 5), (6, 18, 6), (6, 18, 7), (6, 18, 8), (6, 18, 9), (6, 18, 10), (6, 18, 11), (6, 18, 12), (6, 18, 13), (6, 18, 14), (6, 18, 15), (6, 18, 16), (6, 18, 17), (6, 18, 18), (22, 0, 16), (6, 19, 5), (6, 19, 6), (6, 19, 7), (6, 19, 8), (6, 19, 9), (6, 19, 10), (6, 19, 11), (6, 19, 12), (6, 19, 13), (6, 19, 14), (6, 19, 15), (6, 19, 16), (6, 19, 17), (6, 19, 18), (22, 0, 17), (6, 20, 5), (6, 20, 6), (6, 20, 7), (6, 20, 8), (6, 20, 9), (6, 20, 10), (6, 20, 11), (6, 20, 12), (6, 20, 13), (6, 20, 14), (6, 20, 15), (6, 20, 16), (6, 20, 17), (6, 20, 18), (22, 0, 18), (6, 21, 5), (6, 21, 6), (6, 21, 7), (6, 21, 8), (6, 21, 9), (6, 21, 10), (6, 21, 11), (6, 21, 12), (6, 21, 13), (6, 21, 14), (6, 21, 15), (6, 21, 16), (6, 21, 17), (6, 21, 18), (22, 0, 19), (6, 22, 5), (6, 22, 6), (6, 22, 7), (6, 22, 8), (6, 22, 9), (6, 22, 10), (6, 22, 11), (6, 22, 12), (6, 22, 13), (6, 22, 14), (6, 22, 15), (6, 22, 16), (6, 22, 17), (6, 22, 18), (22, 0, 20), (6, 23, 5), (6, 23, 6), (6, 23, 7), (6, 23, 8), (6, 23, 9), (6, 23, 10), (6, 23, 11), (6, 23, 12), (6, 23, 13), (6, 23, 14), (6, 23, 15), (6, 23, 16), (6, 23, 17), (6, 23, 18), (22, 0, 21), (6, 24, 5), (6, 24, 6), (6, 24, 7), (6, 24, 8), (6, 24, 9), (6, 24, 10), (6, 24, 11), (6, 24, 12), (6, 24, 13), (6, 24, 14), (6, 24, 15), (6, 24, 16), (6, 24, 17), (6, 24, 18), (22, 0, 22), (6, 25, 5), (6, 25, 6), (6, 25, 7), (6, 25, 8), (6, 25, 9), (6, 25, 10), (6, 25, 11), (6, 25, 12), (6, 25, 13), (6, 25, 14), (6, 25, 15), (6, 25, 16), (6, 25, 17), (6, 25, 18), (22, 0, 23), (0, 0, 4), (0, 0, 5), (6, 28, 5), (6, 28, 6), (6, 28, 7), (6, 28, 8), (6, 28, 9), (6, 28, 10), (6, 28, 11), (6, 28, 12), (6, 28, 13), (6, 28, 14), (6, 28, 15), (6, 28, 16), (6, 28, 17), (6, 28, 18), (24, 0, 0), (24, 0, 1), (24, 0, 3), (24, 0, 4), (24, 0, 5), (24, 0, 8), (0, 0, 6), (30, 0, 0), (0, 0, 7), (2, 0, 3), (1, 0, 0), (2, 1, 3), (1, 0, 1), (2, 2, 3), (1, 0, 2), (2, 3, 3), (1, 0, 3), (2, 4, 3), (1, 0, 4), (2, 5, 3), (1, 0, 5), (2, 6, 3), (1, 0, 6), (2, 7, 3), (1, 0, 7), (6, 26, 5), (6, 26, 6), (6, 26, 7), (6, 26, 8), (6, 26, 9), (6, 26, 10), (6, 26, 11), (6, 26, 12), (6, 26, 13), (6, 26, 14), (6, 26, 15), (6, 26, 16), (6, 26, 17), (6, 26, 18), (23, 0, 0), (6, 27, 5), (6, 27, 6), (6, 27, 7), (6, 27, 8), (6, 27, 9), (6, 27, 10), (6, 27, 11), (6, 27, 12), (6, 27, 13), (6, 27, 14), (6, 27, 15), (6, 27, 16), (6, 27, 17), (6, 27, 18), (23, 0, 1), (32, 0, 0), (32, 0, 3), (32, 0, 4), (32, 0, 6), (32, 0, 7), (32, 0, 10), (32, 0, 11), (32, 0, 12), (32, 0, 14), (32, 0, 19), (32, 0, 20), (32, 0, 21)]
theorem gh_ord_at0 : gh_all.all (fun q => gh_ord[odr q.1 q.2]? == some q) = true := by decide +kernel
theorem gh_ord_ok0 : gh_ord.all (fun q => Nat.blt q.1 45 && (Nat.blt q.2 (gh_cnt q.1) && gh_ord[odr q.1 q.2]? == some q)) = true := by decide +kernel
theorem gh_ord_nd0 : (List.range 479).all (fun i => match gh_ord[i]? with | some q => Nat.beq (odr q.1 q.2) i | none => false) = true := by decide +kernel
theorem gh_ord_len : gh_ord.length = 479 := by decide +kernel
theorem gn_at {k t : Nat} (hk : k < 45) (ht : t < gh_cnt k) : gh_ord[odr k t]? = some (k, t) := by
  have h : (k, t) ∈ gh_all := by
    unfold gh_all
    exact List.mem_flatMap.mpr ⟨k, List.mem_range.mpr hk, List.mem_map.mpr ⟨t, List.mem_range.mpr ht, rfl⟩⟩
  exact eq_of_beq (List.all_eq_true.mp gh_ord_at0 (k, t) h)
theorem gn_of {i : Nat} {q : Nat × Nat} (h : gh_ord[i]? = some q) : q.1 < 45 ∧ q.2 < gh_cnt q.1 ∧ odr q.1 q.2 = i := by
  have h1 := List.all_eq_true.mp gh_ord_ok0 q (List.mem_of_getElem? h)
  simp only [Bool.and_eq_true] at h1
  have hi : i < 479 := by rw [← gh_ord_len]; exact (List.getElem?_eq_some_iff.mp h).1
  have h2 := List.all_eq_true.mp gh_ord_nd0 i (List.mem_range.mpr hi)
  rw [h] at h2
  exact ⟨Nat.blt_eq.mp h1.1, Nat.blt_eq.mp h1.2.1, Nat.eq_of_beq_eq_true h2⟩
/-- what a slot refers to -/
def gh_tg (k t i : Nat) : Option (Nat × Nat) := match gh_ar k with
  | none => match (gh_fl k t)[i]? with
    | some (some q) => some q
    | _ => none
  | some (a, n) => if 2 ≤ a ∧ i < n then some (gh_el k i) else none
theorem gh_tg_u0 : gh_ord.all (fun q => (List.range 32).all (fun i => match gh_tg q.1 q.2 i with | some z => gh_par[evn z.1 z.2]? == some (q.1, q.2, i) | none => true)) = true := by decide +kernel
theorem gh_tg_lt {k t i : Nat} {z : Nat × Nat} (h : gh_tg k t i = some z) : i < 32 := by
  unfold gh_tg at h
  split at h
  · have hl : (gh_fl k t).length ≤ 22 := by
      unfold gh_fl
      split <;> exact Nat.le_of_ble_eq_true rfl
    rcases Nat.lt_or_ge i (gh_fl k t).length with q | q
    · omega
    · rw [List.getElem?_eq_none q] at h
      cases h
  · rename_i a n e
    split at h
    · rename_i g
      have : n ≤ 2000 ∧ (2 ≤ a → n ≤ 24) := by
        unfold gh_ar at e
        split at e <;> first | (cases e; constructor <;> omega) | cases e
      omega
    · cases h
theorem gh_tg_u {k t i k' t' i' : Nat} {z z' : Nat × Nat} (hk : k < 45) (ht : t < gh_cnt k) (hk' : k' < 45) (ht' : t' < gh_cnt k') (h : gh_tg k t i = some z) (h' : gh_tg k' t' i' = some z') (e : evn z.1 z.2 = evn z'.1 z'.2) : k = k' ∧ t = t' ∧ i = i' := by
  have key : ∀ {a b c : Nat} {y : Nat × Nat}, a < 45 → b < gh_cnt a → gh_tg a b c = some y → gh_par[evn y.1 y.2]? = some (a, b, c) := fun {a b c y} ha hb hy => by
    have h1 := List.all_eq_true.mp gh_tg_u0 (a, b) (List.mem_of_getElem? (gn_at ha hb))
    have h2 := List.all_eq_true.mp h1 c (List.mem_range.mpr (gh_tg_lt hy))
    rw [hy] at h2
    exact eq_of_beq h2
  have h1 := key hk ht h
  have h2 := key hk' ht' h'
  rw [e, h2] at h1
  have := Option.some.inj h1
  injection this with e1 e2
  injection e2 with e2 e3
  exact ⟨e1.symm, e2.symm, e3.symm⟩
def gn_fv (wd : gh_Wd) (v : Nat) (M : gh_M) (k t i : Nat) : Value := match (gh_fl k t)[i]? with
  | some (some q) => if evn q.1 q.2 < v then .ref (wd.2.1 q.1 q.2) else .null
  | _ => .int (M k t i)
def gn_ce (wd : gh_Wd) (v : Nat) (M : gh_M) (k t : Nat) : va_E := match gh_ar k with
  | some (0, n) => .inl (wd.2.2.1 0, n, .inl (M k t))
  | some (1, n) => .inl (wd.2.2.1 1, n, .inl (M k t))
  | some (a, n) => .inl (wd.2.2.1 a, n, .inr (.inr (.inr (.inr (fun i => if i < n ∧ evn (gh_el k i).1 (gh_el k i).2 < v then some (wd.2.1 (gh_el k i).1 (gh_el k i).2) else none)))))
  | none => .inr (gh_ci k, (List.range (gh_fl k t).length).map (gn_fv wd v M k t))
def gn_ws (wd : gh_Wd) (n v : Nat) (M : gh_M) : va_W := (gh_ord.take n).map (fun q => (wd.2.1 q.1 q.2, gn_ce wd v M q.1 q.2))
def gn_B (wd : gh_Wd) : Prop := ∀ k t, k < 45 → wd.2.1 k t = wd.2.2.2 + odr k t
theorem gn_ws_at {wd : gh_Wd} {n v k t : Nat} {M : gh_M} (hk : k < 45) (ht : t < gh_cnt k) (h : odr k t < n) : (gn_ws wd n v M)[odr k t]? = some (wd.2.1 k t, gn_ce wd v M k t) := by
  unfold gn_ws
  rw [List.getElem?_map, List.getElem?_take, if_pos h, gn_at hk ht]
  rfl
theorem gn_ws_of {wd : gh_Wd} {n v i : Nat} {M : gh_M} {p : Nat × va_E} (h : (gn_ws wd n v M)[i]? = some p) : ∃ k t, k < 45 ∧ t < gh_cnt k ∧ odr k t = i ∧ i < n ∧ p = (wd.2.1 k t, gn_ce wd v M k t) := by
  unfold gn_ws at h
  rw [List.getElem?_map, List.getElem?_take] at h
  by_cases q : i < n
  · rw [if_pos q] at h
    cases e : gh_ord[i]? with
    | none => rw [e] at h; cases h
    | some z =>
      rw [e] at h
      obtain ⟨h1, h2, h3⟩ := gn_of e
      exact ⟨z.1, z.2, h1, h2, h3, q, (Option.some.inj h).symm⟩
  · rw [if_neg q] at h; cases h
theorem gn_D {wd : gh_Wd} {n v : Nat} {M : gh_M} (hB : gn_B wd) : va_D (gh_A wd) (gn_ws wd n v M) := by
  refine ⟨fun i j p q hi hj e => ?_, fun i p hi => ?_⟩
  · obtain ⟨k, t, h1, h2, h3, h4, rfl⟩ := gn_ws_of hi
    obtain ⟨k', t', g1, g2, g3, g4, rfl⟩ := gn_ws_of hj
    have e : wd.2.1 k t = wd.2.1 k' t' := e
    rw [hB k t h1, hB k' t' g1] at e
    omega
  · obtain ⟨k, t, h1, h2, h3, h4, rfl⟩ := gn_ws_of hi
    show wd.2.2.2 ≤ wd.2.1 k t
    rw [hB k t h1]
    omega
theorem gn_set {wd : gh_Wd} {n v v' k t : Nat} {M M' : gh_M} (hk : k < 45) (ht : t < gh_cnt k) (h : odr k t < n) {e : va_E} (he : gn_ce wd v' M' k t = e) (ho : ∀ a b, a < 45 → b < gh_cnt a → ¬ (a = k ∧ b = t) → gn_ce wd v' M' a b = gn_ce wd v M a b) : (gn_ws wd n v M).set (odr k t) (wd.2.1 k t, e) = gn_ws wd n v' M' := by
  subst he
  have hl : odr k t < (gn_ws wd n v M).length := (List.getElem?_eq_some_iff.mp (gn_ws_at (wd := wd) (v := v) (M := M) hk ht h)).1
  apply List.ext_getElem?
  intro i
  by_cases hi : odr k t = i
  · subst hi
    rw [List.getElem?_set_self hl, gn_ws_at hk ht h]
  · rw [List.getElem?_set_ne hi]
    unfold gn_ws
    rw [List.getElem?_map, List.getElem?_map]
    cases hq : (gh_ord.take n)[i]? with
    | none => rfl
    | some q =>
      rw [List.getElem?_take] at hq
      split at hq
      · obtain ⟨h1, h2, h3⟩ := gn_of hq
        show some (wd.2.1 q.1 q.2, gn_ce wd v M q.1 q.2) = some (wd.2.1 q.1 q.2, gn_ce wd v' M' q.1 q.2)
        rw [ho q.1 q.2 h1 h2 (fun z => hi (by rw [← z.1, ← z.2]; exact h3))]
      · cases hq
theorem gn_push {wd : gh_Wd} {n v k t : Nat} {M : gh_M} (hk : k < 45) (ht : t < gh_cnt k) (h : odr k t = n) : gn_ws wd (n + 1) v M = gn_ws wd n v M ++ [(wd.2.1 k t, gn_ce wd v M k t)] := by
  unfold gn_ws
  have e : gh_ord.take (n + 1) = gh_ord.take n ++ [(k, t)] := by
    rw [List.take_add_one, ← h, gn_at hk ht]
    rfl
  rw [e, List.map_append]
  rfl
/-- nothing else refers to what is set now -/
theorem gn_ce_up {wd : gh_Wd} {M : gh_M} {k t j a b : Nat} {z : Nat × Nat} (hk : k < 45) (ht : t < gh_cnt k) (hz : gh_tg k t j = some z) (ha : a < 45) (hb : b < gh_cnt a) (hne : ¬ (a = k ∧ b = t)) : gn_ce wd (evn z.1 z.2 + 1) M a b = gn_ce wd (evn z.1 z.2) M a b := by
  have key : ∀ i y, gh_tg a b i = some y → (evn y.1 y.2 < evn z.1 z.2 + 1 ↔ evn y.1 y.2 < evn z.1 z.2) := fun i y hy => by
    have : evn y.1 y.2 ≠ evn z.1 z.2 := fun e => by
      obtain ⟨e1, e2, -⟩ := gh_tg_u ha hb hk ht hy hz e
      exact hne ⟨e1, e2⟩
    omega
  unfold gn_ce
  cases har : gh_ar a with
  | none =>
    have e : gn_fv wd (evn z.1 z.2 + 1) M a b = gn_fv wd (evn z.1 z.2) M a b := funext fun i => by
      unfold gn_fv
      cases hq : (gh_fl a b)[i]? with
      | none => rfl
      | some o => cases o with
        | none => rfl
        | some y =>
          have hy : gh_tg a b i = some y := by unfold gh_tg; rw [har]; show (match (gh_fl a b)[i]? with | some (some q) => some q | _ => none) = some y; rw [hq]
          have := key i y hy
          show (if evn y.1 y.2 < evn z.1 z.2 + 1 then Value.ref (wd.2.1 y.1 y.2) else .null) = if evn y.1 y.2 < evn z.1 z.2 then Value.ref (wd.2.1 y.1 y.2) else .null
          simp only [this]
    show Sum.inr (gh_ci a, (List.range (gh_fl a b).length).map (gn_fv wd (evn z.1 z.2 + 1) M a b)) = Sum.inr (gh_ci a, (List.range (gh_fl a b).length).map (gn_fv wd (evn z.1 z.2) M a b))
    rw [e]
  | some w =>
    obtain ⟨c, n⟩ := w
    match c, har with
    | 0, har => rfl
    | 1, har => rfl
    | c + 2, har =>
      have e : (fun i => if i < n ∧ evn (gh_el a i).1 (gh_el a i).2 < evn z.1 z.2 + 1 then some (wd.2.1 (gh_el a i).1 (gh_el a i).2) else none) = fun i => if i < n ∧ evn (gh_el a i).1 (gh_el a i).2 < evn z.1 z.2 then some (wd.2.1 (gh_el a i).1 (gh_el a i).2) else none := funext fun i => by
        by_cases q : i < n
        · have hy : gh_tg a b i = some (gh_el a i) := by unfold gh_tg; rw [har]; show (if 2 ≤ c + 2 ∧ i < n then some (gh_el a i) else none) = _; rw [if_pos ⟨by omega, q⟩]
          have := key i _ hy
          simp only [q, this]
        · simp only [q, false_and]
      show Sum.inl (wd.2.2.1 (c + 2), n, Sum.inr (Sum.inr (Sum.inr (Sum.inr _)))) = Sum.inl (wd.2.2.1 (c + 2), n, Sum.inr (Sum.inr (Sum.inr (Sum.inr _))))
      rw [e]
theorem gn_ce_i {wd : gh_Wd} {v k t n : Nat} {M : gh_M} (h : gh_ar k = some (0, n)) : gn_ce wd v M k t = .inl (wd.2.2.1 0, n, .inl (M k t)) := by
  unfold gn_ce; rw [h]; rfl
theorem gn_ce_z {wd : gh_Wd} {v k t n : Nat} {M : gh_M} (h : gh_ar k = some (1, n)) : gn_ce wd v M k t = .inl (wd.2.2.1 1, n, .inl (M k t)) := by
  unfold gn_ce; rw [h]; rfl
theorem gn_ce_r {wd : gh_Wd} {v k t n a : Nat} {M : gh_M} (h : gh_ar k = some (a + 2, n)) : gn_ce wd v M k t = .inl (wd.2.2.1 (a + 2), n, .inr (.inr (.inr (.inr (fun i => if i < n ∧ evn (gh_el k i).1 (gh_el k i).2 < v then some (wd.2.1 (gh_el k i).1 (gh_el k i).2) else none))))) := by
  unfold gn_ce; rw [h]; rfl
theorem gn_ce_o {wd : gh_Wd} {v k t : Nat} {M : gh_M} (h : gh_ar k = none) : gn_ce wd v M k t = .inr (gh_ci k, (List.range (gh_fl k t).length).map (gn_fv wd v M k t)) := by
  unfold gn_ce; rw [h]
theorem gn_fs_at {wd : gh_Wd} {v k t j : Nat} {M : gh_M} {f : Option (Nat × Nat)} (h : (gh_fl k t)[j]? = some f) : ((List.range (gh_fl k t).length).map (gn_fv wd v M k t))[j]? = some (gn_fv wd v M k t j) := by
  have hl : j < (gh_fl k t).length := (List.getElem?_eq_some_iff.mp h).1
  rw [List.getElem?_map, List.getElem?_range hl]
  rfl
/-- a reference is set in an object -/
theorem gn_fs_set {wd : gh_Wd} {M : gh_M} {k t j : Nat} {z : Nat × Nat} (hk : k < 45) (ht : t < gh_cnt k) (har : gh_ar k = none) (h : (gh_fl k t)[j]? = some (some z)) :
    ((List.range (gh_fl k t).length).map (gn_fv wd (evn z.1 z.2) M k t)).set j (.ref (wd.2.1 z.1 z.2)) = (List.range (gh_fl k t).length).map (gn_fv wd (evn z.1 z.2 + 1) M k t) := by
  have hl : j < (gh_fl k t).length := (List.getElem?_eq_some_iff.mp h).1
  have tg : ∀ i y, (gh_fl k t)[i]? = some (some y) → gh_tg k t i = some y := fun i y hy => by
    unfold gh_tg; rw [har]; show (match (gh_fl k t)[i]? with | some (some q) => some q | _ => none) = some y; rw [hy]
  apply List.ext_getElem?
  intro i
  by_cases hi : j = i
  · subst hi
    rw [List.getElem?_set_self (by simp; exact hl), List.getElem?_map, List.getElem?_range hl]
    show some (Value.ref (wd.2.1 z.1 z.2)) = some (gn_fv wd (evn z.1 z.2 + 1) M k t j)
    unfold gn_fv
    rw [h]
    show some (Value.ref (wd.2.1 z.1 z.2)) = some (if evn z.1 z.2 < evn z.1 z.2 + 1 then Value.ref (wd.2.1 z.1 z.2) else .null)
    rw [if_pos (by omega)]
  · rw [List.getElem?_set_ne hi, List.getElem?_map, List.getElem?_map]
    cases hq : (List.range (gh_fl k t).length)[i]? with
    | none => rfl
    | some w =>
      have hw : w = i := by
        obtain ⟨h2, h3⟩ := List.getElem?_eq_some_iff.mp hq
        rw [List.getElem_range] at h3
        exact h3.symm
      subst hw
      show some (gn_fv wd (evn z.1 z.2) M k t w) = some (gn_fv wd (evn z.1 z.2 + 1) M k t w)
      unfold gn_fv
      cases hy : (gh_fl k t)[w]? with
      | none => rfl
      | some o => cases o with
        | none => rfl
        | some y =>
          have hne : evn y.1 y.2 ≠ evn z.1 z.2 := fun e => by
            obtain ⟨-, -, e3⟩ := gh_tg_u hk ht hk ht (tg w y hy) (tg j z h) e
            exact hi e3.symm
          have : (evn y.1 y.2 < evn z.1 z.2 + 1) ↔ (evn y.1 y.2 < evn z.1 z.2) := by omega
          show some (if evn y.1 y.2 < evn z.1 z.2 then Value.ref (wd.2.1 y.1 y.2) else .null) = some (if evn y.1 y.2 < evn z.1 z.2 + 1 then Value.ref (wd.2.1 y.1 y.2) else .null)
          simp only [this]
def frV (o : Option (Option (Nat × Nat))) : Value := match o with
  | some (some _) => .null
  | _ => .int 0
/-- what is new has nothing set -/
theorem gn_fresh {wd : gh_Wd} {v k t : Nat} {M : gh_M} (hv : ∀ (j : Nat) (z : Nat × Nat), (gh_fl k t)[j]? = some (some z) → v ≤ evn z.1 z.2) (hM : ∀ j, M k t j = 0) (j : Nat) : gn_fv wd v M k t j = frV (gh_fl k t)[j]? := by
  unfold gn_fv frV
  cases h : (gh_fl k t)[j]? with
  | none => show Value.int (M k t j) = .int 0; rw [hM]
  | some o => cases o with
    | none => show Value.int (M k t j) = .int 0; rw [hM]
    | some z =>
      have := hv j z h
      show (if evn z.1 z.2 < v then Value.ref (wd.2.1 z.1 z.2) else .null) = .null
      rw [if_neg (by omega)]
