-- THE START: from the entry
theorem ds_0 : gh_at mi_law 0 (.new 7) 3 3 := ⟨by decide +kernel, rfl⟩
theorem ds_3 : gh_at mi_law 3 (.dup) 1 4 := ⟨by decide +kernel, rfl⟩
theorem ds_4 : gh_at mi_law 4 (.invokespecial 9) 3 7 := ⟨by decide +kernel, rfl⟩
theorem ds_7 : gh_at mi_law 7 (.astore_n 1) 1 8 := ⟨by decide +kernel, rfl⟩
theorem ds_8 : gh_at mi_law 8 (.new 10) 3 11 := ⟨by decide +kernel, rfl⟩
theorem ds_11 : gh_at mi_law 11 (.dup) 1 12 := ⟨by decide +kernel, rfl⟩
theorem ds_12 : gh_at mi_law 12 (.invokespecial 12) 3 15 := ⟨by decide +kernel, rfl⟩
theorem ds_15 : gh_at mi_law 15 (.astore_n 2) 1 16 := ⟨by decide +kernel, rfl⟩
theorem ds_16 : gh_at mi_law 16 (.iconst 0) 1 17 := ⟨by decide +kernel, rfl⟩
theorem ds_17 : gh_at mi_law 17 (.istore_n 3) 1 18 := ⟨by decide +kernel, rfl⟩
theorem lw_go {wd : gh_Wd} {p : Program} {l : Launch} {e : Env} {s : State} {m : MethodId} {below : List Frame} {meth : Method} {c : Code} {b L : Nat} {xs : Nat → Int32} (hA : wd.2.2.2 = s.heap.size) (h70 : wd.2.1 70 0 = b) (hX : va_X b L xs s s.heap) (hbl : b < s.heap.size) (hL : L ≤ 3584) : gn_J mi_law 1000 wd (p, l, e, room_1, s, m, #[Value.ref b], below, meth, c, 0, 479, lw_Z below #[Value.ref b] s) 479 477 (mdM 8) 16 [some (vR 70 0), some (vR 0 0), some (vR 32 0), none] [] := by
  intro hC h0 hE H locs ls hP hz hS hLL
  have hP' := gn_all hP
  refine W.widen (k := 600000) (n := 7302250) (by decide) (by decide) ?_
  have hSc : gh_Sc wd b L xs (p, l, e, room_1, s, m, #[Value.ref b], below, meth, c, 600000, 7302250, lw_Z below #[Value.ref b] s) := ⟨hX, hbl, fun h => by
    have h : wd.2.2.2 ≤ b := h
    rw [hA] at h
    omega, h70⟩
  have J : gh_J mi_law 1000 wd (p, l, e, room_1, s, m, #[Value.ref b], below, meth, c, 600000, 7302250, lw_Z below #[Value.ref b] s) (mdM 8) 16 [some (vR 70 0), some (vR 0 0), some (vR 32 0), none] [] := by
    refine gh_iconst ds_16 (v := nI 0) (by decide) ?_
    refine gh_istore_n (L' := lwL 0) ds_17 (by decide) rfl rfl ?_
    exact lw_loop hSc hL (lw_last hA) (L + 1) 0 _ (by omega) (by omega) md_ok
  exact J ⟨hC.1, hC.2.1, hC.2.2.1, hC.2.2.2.1, hC.2.2.2.2.1, hC.2.2.2.2.2.1.1, hC.2.2.2.2.2.2.1, hC.2.2.2.2.2.2.2.1, Nat.le_of_ble_eq_true rfl, Nat.le_of_ble_eq_true rfl, Nat.le_of_ble_eq_true rfl, Nat.le_of_ble_eq_true rfl⟩ H locs ls hP' hS hLL
theorem lw_begin {wd : gh_Wd} {p : Program} {l : Launch} {e : Env} {s : State} {m : MethodId} {below : List Frame} {meth : Method} {c : Code} {b L : Nat} {xs : Nat → Int32} (hA : wd.2.2.2 = s.heap.size) (h70 : wd.2.1 70 0 = b) (hX : va_X b L xs s s.heap) (hbl : b < s.heap.size) (hL : L ≤ 3584) : gn_J mi_law 1000 wd (p, l, e, room_1, s, m, #[Value.ref b], below, meth, c, 0, 479, lw_Z below #[Value.ref b] s) 0 0 gh_0 0 [some (vR 70 0), none, none, none] [] := by
  refine gn_new (k := 0) (t := 0) (C := RX6) (T := TX6) (N := 10) ds_0 (by decide) (by decide) rfl rfl bg_13 bg_14 bw_1 (by decide) rfl (df_X6 _) rfl (by show (0 : Nat) < 479; decide) (fr_X6 (by decide)) (fun _ => rfl) ?_
  refine gn_dup ds_3 ?_
  refine gn_call (mi' := mi_X6_init) ds_4 (Or.inl bg_15) ok_X6_init (by decide) (Nat.le_of_ble_eq_true rfl) (by decide) (by show (466 : Nat) ≤ 479; decide) c_Ghost ?_
  refine gn_astore_n (L' := [some (vR 70 0), some (vR 0 0), none, none]) ds_7 (by decide) rfl rfl ?_
  refine gn_new (k := 32) (t := 0) (C := RX7) (T := TX7) (N := 22) ds_8 (by decide) (by decide) rfl rfl bg_815 bg_816 bw_8 (by decide) rfl (df_X7 _) rfl (by show (466 : Nat) < 479; decide) (fr_X7 (by decide)) (fun _ => rfl) ?_
  refine gn_dup ds_11 ?_
  refine gn_call (mi' := mi_X7_init) ds_12 (Or.inl bg_817) ok_X7_init (by decide) (Nat.le_of_ble_eq_true rfl) (by decide) (by show (479 : Nat) ≤ 479; decide) c_Model ?_
  refine gn_astore_n (L' := [some (vR 70 0), some (vR 0 0), some (vR 32 0), none]) ds_15 (by decide) rfl rfl ?_
  exact lw_go hA h70 hX hbl hL
/-- THE LAW, from its entry -/
theorem whole_start {p : Program} {e : Env} {s : State} {m : MethodId} {below : List Frame} {meth : Method} {c : Code} (l : Launch) (hflags : l.flags = flags0) {b L : Nat} {xs : Nat → Int32} (hL : L ≤ 3584) (C0 : lw_At p s m meth c b L xs) : W p l e room_1 s m #[Value.ref b] below meth c s.heap [] 0 0 (lw_Z below #[Value.ref b] s) (entryFrame m ([Value.ref b] : List Value).toArray 4) := by
  obtain ⟨wd, hOk, hA, h70⟩ := lw_wd C0
  obtain ⟨hx, hb, hr, hml, hown, hts, hX, hbl, hlocks, hgv⟩ := C0
  have hl := lv_entry ([.ref b]) (n := 4) (Nat.le_of_ble_eq_true rfl)
  rw [lg_entry_eq]
  generalize (lg_sl ([.ref b]) ++ List.replicate (4 - (lg_sl ([.ref b])).length) Slot.unset).toArray = ls at hl ⊢
  have hl : lv_has ls 4 [(0, .ref b)] := hl
  have hLL : gh_L wd ls 4 [some (vR 70 0), none, none, none] := by
    refine ⟨hl.1, hl.2.1, fun q hq => ?_⟩
    obtain ⟨j, y⟩ := q
    obtain ⟨w, hw, rfl⟩ := gh_pr_mem.mp hq
    match j, hw with
    | 0, hw =>
      have e1 : vR 70 0 = w := Option.some.inj (Option.some.inj hw)
      subst e1
      have e2 : gh_tv wd (vR 70 0) = .ref b := by show Value.ref (wd.2.1 70 0) = _; rw [h70]
      rw [e2]
      exact hl.2.2 (0, .ref b) (List.mem_singleton.mpr rfl)
    | 1, hw => exact absurd (Option.some.inj hw) (by simp)
    | 2, hw => exact absurd (Option.some.inj hw) (by simp)
    | 3, hw => exact absurd (Option.some.inj hw) (by simp)
    | j + 4, hw => simp at hw
  have hG : ∀ w ∈ gh_G, w.before #[Value.ref b] s = true := fun w hw => hts w (List.mem_filter.mp hw).1
  have J := lw_begin (p := p) (l := l) (e := e) (m := m) (below := below) (meth := meth) (c := c) hA h70 hX hbl hL
  exact J ⟨hx, hb, hml, hown, hG, hOk, hlocks, hr, Nat.le_of_ble_eq_true rfl, Nat.le_of_ble_eq_true rfl, Nat.le_of_ble_eq_true rfl, Nat.le_of_ble_eq_true rfl, fun h => absurd h (by decide)⟩ (Nat.le_refl _) (by decide) s.heap [] ls (fun k q h => by simp [gn_ws] at h) (by rw [hA]; rfl) va_S.rf hLL
